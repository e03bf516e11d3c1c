/-! THE CLAIM OUT OF ONE WALK OF THE LAW'S BODY. Your part is whole_start (and what it stands on); all else here is the same for every law, but numbers. -/
def R_law : String := "OneMarkLaw"
def lw_P (b : Addr) (xs : List Int32) (args : Array Value) (s : State) : Prop := args = #[.ref b] ∧ s.IntsAt b xs ∧ xs.length ≤ 2560 ∧ (Jvm.Cond.and given_1 narrow_1).before args s = true
def lw_Q (_ : Array Value) (s : State) (o : Outcome) (t : State) : Prop := o = .returned (some (.int 1)) ∧ Framed s o t [] 600000 7302250
def lw_Z (below : List Frame) (a : Array Value) (s : State) : State → Prop := fun t => ∃ o, t.status = .running ∧ Ended t below o ∧ lw_Q a s o t
/-- the law's own end, with 1 on the stack, nothing written that was there before, its room as the claim has it -/
theorem lw_ret {p : Program} {l : Launch} {e : Env} {s : State} {m : MethodId} {below : List Frame} {meth : Method} {c : Code} {b : Nat} (hx : p.tables.exec = Jvm.exec) (hb : c.code = code) (hr : meth.sig.returnType = ret) (hlocks : meth.locks = false) {pc : Nat} {H : Heap} {ls : Array Slot} (hdg : decode code pc = .ok (.ireturn, 1)) : W p l e room_1 s m #[Value.ref b] below meth c H [] 600000 7302250 (lw_Z below #[Value.ref b] s) (F0 m pc ls [.int 1]) := by
  intro T hT X
  obtain ⟨fs, hret, hrun, hended, hW, hframe⟩ := X.leave (v := some (.int 1)) (hlocks := hlocks) (fun h => by rw [hr] at h; cases h)
  have hmeth' : T.vm.method? m = some meth := X.method'
  refine ⟨T.setFrames fs, ?_, .returned (some (.int 1)), hrun, hended, rfl, ⟨_, rfl⟩, hW, hframe⟩
  jvm_step X.here [X.here.top, hx, hb, hdg, hmeth', hr, ret, narrow_b1]
  (try refine ⟨rfl, ?_⟩); (try refine ⟨rfl, ?_⟩)
  first | (intro acts; rw [hret _ acts rfl rfl rfl]) | rw [hret _ _ rfl rfl rfl]
  exact Steps.refl _
/-- what holds at the law's entry: the machine, the code, the tables' words (any of lw_tbl by 'hts w (by decide +kernel)'), the script of L ints xs at the cell b, what the Statement gives of the start (any of its parts by flat_of_before) -/
def lw_At (p : Program) (s : State) (m : MethodId) (meth : Method) (c : Code) (b L : Nat) (xs : Nat → Int32) : Prop :=
  p.tables.exec = Jvm.exec ∧ c.code = code ∧ meth.sig.returnType = ret ∧ c.maxLocals = 4 ∧ s.vm.findClass R_law = some m.cls ∧ (∀ w ∈ lw_tbl, w.before #[Value.ref b] s = true) ∧ va_X b L xs s s.heap ∧ b < s.heap.size ∧ meth.locks = false ∧ (Jvm.Cond.and given_1 narrow_1).before #[Value.ref b] s = true
theorem dL_0 : decode code 0 = .ok (.new 7, 3) := by decide +kernel
theorem dL_3 : decode code 3 = .ok (.dup, 1) := by decide +kernel
theorem dL_4 : decode code 4 = .ok (.invokespecial 9, 3) := by decide +kernel
theorem dL_7 : decode code 7 = .ok (.astore_n 1, 1) := by decide +kernel
theorem dL_8 : decode code 8 = .ok (.new 10, 3) := by decide +kernel
theorem dL_11 : decode code 11 = .ok (.dup, 1) := by decide +kernel
theorem dL_12 : decode code 12 = .ok (.invokespecial 12, 3) := by decide +kernel
theorem dL_15 : decode code 15 = .ok (.astore_n 2, 1) := by decide +kernel
theorem dL_16 : decode code 16 = .ok (.iconst 0, 1) := by decide +kernel
theorem dL_17 : decode code 17 = .ok (.istore_n 3, 1) := by decide +kernel
theorem dL_18 : decode code 18 = .ok (.iload_n 3, 1) := by decide +kernel
theorem dL_19 : decode code 19 = .ok (.aload_n 0, 1) := by decide +kernel
theorem dL_20 : decode code 20 = .ok (.arraylength, 1) := by decide +kernel
theorem dL_21 : decode code 21 = .ok (.iconst 5, 1) := by decide +kernel
theorem dL_22 : decode code 22 = .ok (.isub, 1) := by decide +kernel
theorem dL_23 : decode code 23 = .ok (.if_icmp .gt 1014, 3) := by decide +kernel
theorem dL_26 : decode code 26 = .ok (.aload_n 0, 1) := by decide +kernel
theorem dL_27 : decode code 27 = .ok (.iload_n 3, 1) := by decide +kernel
theorem dL_28 : decode code 28 = .ok (.iaload, 1) := by decide +kernel
theorem dL_29 : decode code 29 = .ok (.bipush 31, 2) := by decide +kernel
theorem dL_31 : decode code 31 = .ok (.iand, 1) := by decide +kernel
theorem dL_32 : decode code 32 = .ok (.tableswitch 999 0 28 #[132, 165, 208, 231, 264, 307, 340, 373, 416, 449, 482, 525, 538, 561, 594, 627, 680, 703, 726, 749, 792, 835, 898, 911, 924, 937, 950, 963, 976], 132) := by decide +kernel
theorem dL_164 : decode code 164 = .ok (.aload_n 1, 1) := by decide +kernel
theorem dL_165 : decode code 165 = .ok (.aload_n 0, 1) := by decide +kernel
theorem dL_166 : decode code 166 = .ok (.iload_n 3, 1) := by decide +kernel
theorem dL_167 : decode code 167 = .ok (.iconst 1, 1) := by decide +kernel
theorem dL_168 : decode code 168 = .ok (.iadd, 1) := by decide +kernel
theorem dL_169 : decode code 169 = .ok (.iaload, 1) := by decide +kernel
theorem dL_170 : decode code 170 = .ok (.aload_n 0, 1) := by decide +kernel
theorem dL_171 : decode code 171 = .ok (.iload_n 3, 1) := by decide +kernel
theorem dL_172 : decode code 172 = .ok (.iconst 2, 1) := by decide +kernel
theorem dL_173 : decode code 173 = .ok (.iadd, 1) := by decide +kernel
theorem dL_174 : decode code 174 = .ok (.iaload, 1) := by decide +kernel
theorem dL_175 : decode code 175 = .ok (.invokevirtual 13, 3) := by decide +kernel
theorem dL_178 : decode code 178 = .ok (.aload_n 2, 1) := by decide +kernel
theorem dL_179 : decode code 179 = .ok (.aload_n 0, 1) := by decide +kernel
theorem dL_180 : decode code 180 = .ok (.iload_n 3, 1) := by decide +kernel
theorem dL_181 : decode code 181 = .ok (.iconst 1, 1) := by decide +kernel
theorem dL_182 : decode code 182 = .ok (.iadd, 1) := by decide +kernel
theorem dL_183 : decode code 183 = .ok (.iaload, 1) := by decide +kernel
theorem dL_184 : decode code 184 = .ok (.aload_n 0, 1) := by decide +kernel
theorem dL_185 : decode code 185 = .ok (.iload_n 3, 1) := by decide +kernel
theorem dL_186 : decode code 186 = .ok (.iconst 2, 1) := by decide +kernel
theorem dL_187 : decode code 187 = .ok (.iadd, 1) := by decide +kernel
theorem dL_188 : decode code 188 = .ok (.iaload, 1) := by decide +kernel
theorem dL_189 : decode code 189 = .ok (.invokevirtual 17, 3) := by decide +kernel
theorem dL_192 : decode code 192 = .ok (.if_icmp .eq 839, 3) := by decide +kernel
theorem dL_195 : decode code 195 = .ok (.iconst 0, 1) := by decide +kernel
theorem dL_196 : decode code 196 = .ok (.ireturn, 1) := by decide +kernel
theorem dL_197 : decode code 197 = .ok (.aload_n 1, 1) := by decide +kernel
theorem dL_198 : decode code 198 = .ok (.aload_n 0, 1) := by decide +kernel
theorem dL_199 : decode code 199 = .ok (.iload_n 3, 1) := by decide +kernel
theorem dL_200 : decode code 200 = .ok (.iconst 1, 1) := by decide +kernel
theorem dL_201 : decode code 201 = .ok (.iadd, 1) := by decide +kernel
theorem dL_202 : decode code 202 = .ok (.iaload, 1) := by decide +kernel
theorem dL_203 : decode code 203 = .ok (.aload_n 0, 1) := by decide +kernel
theorem dL_204 : decode code 204 = .ok (.iload_n 3, 1) := by decide +kernel
theorem dL_205 : decode code 205 = .ok (.iconst 2, 1) := by decide +kernel
theorem dL_206 : decode code 206 = .ok (.iadd, 1) := by decide +kernel
theorem dL_207 : decode code 207 = .ok (.iaload, 1) := by decide +kernel
theorem dL_208 : decode code 208 = .ok (.aload_n 0, 1) := by decide +kernel
theorem dL_209 : decode code 209 = .ok (.iload_n 3, 1) := by decide +kernel
theorem dL_210 : decode code 210 = .ok (.iconst 3, 1) := by decide +kernel
theorem dL_211 : decode code 211 = .ok (.iadd, 1) := by decide +kernel
theorem dL_212 : decode code 212 = .ok (.iaload, 1) := by decide +kernel
theorem dL_213 : decode code 213 = .ok (.invokevirtual 18, 3) := by decide +kernel
theorem dL_216 : decode code 216 = .ok (.aload_n 2, 1) := by decide +kernel
theorem dL_217 : decode code 217 = .ok (.aload_n 0, 1) := by decide +kernel
theorem dL_218 : decode code 218 = .ok (.iload_n 3, 1) := by decide +kernel
theorem dL_219 : decode code 219 = .ok (.iconst 1, 1) := by decide +kernel
theorem dL_220 : decode code 220 = .ok (.iadd, 1) := by decide +kernel
theorem dL_221 : decode code 221 = .ok (.iaload, 1) := by decide +kernel
theorem dL_222 : decode code 222 = .ok (.aload_n 0, 1) := by decide +kernel
theorem dL_223 : decode code 223 = .ok (.iload_n 3, 1) := by decide +kernel
theorem dL_224 : decode code 224 = .ok (.iconst 2, 1) := by decide +kernel
theorem dL_225 : decode code 225 = .ok (.iadd, 1) := by decide +kernel
theorem dL_226 : decode code 226 = .ok (.iaload, 1) := by decide +kernel
theorem dL_227 : decode code 227 = .ok (.aload_n 0, 1) := by decide +kernel
theorem dL_228 : decode code 228 = .ok (.iload_n 3, 1) := by decide +kernel
theorem dL_229 : decode code 229 = .ok (.iconst 3, 1) := by decide +kernel
theorem dL_230 : decode code 230 = .ok (.iadd, 1) := by decide +kernel
theorem dL_231 : decode code 231 = .ok (.iaload, 1) := by decide +kernel
theorem dL_232 : decode code 232 = .ok (.invokevirtual 22, 3) := by decide +kernel
theorem dL_235 : decode code 235 = .ok (.if_icmp .eq 796, 3) := by decide +kernel
theorem dL_238 : decode code 238 = .ok (.iconst 0, 1) := by decide +kernel
theorem dL_239 : decode code 239 = .ok (.ireturn, 1) := by decide +kernel
theorem dL_240 : decode code 240 = .ok (.aload_n 1, 1) := by decide +kernel
theorem dL_241 : decode code 241 = .ok (.aload_n 0, 1) := by decide +kernel
theorem dL_242 : decode code 242 = .ok (.iload_n 3, 1) := by decide +kernel
theorem dL_243 : decode code 243 = .ok (.iconst 1, 1) := by decide +kernel
theorem dL_244 : decode code 244 = .ok (.iadd, 1) := by decide +kernel
theorem dL_245 : decode code 245 = .ok (.iaload, 1) := by decide +kernel
theorem dL_246 : decode code 246 = .ok (.invokevirtual 23, 3) := by decide +kernel
theorem dL_249 : decode code 249 = .ok (.aload_n 2, 1) := by decide +kernel
theorem dL_250 : decode code 250 = .ok (.aload_n 0, 1) := by decide +kernel
theorem dL_251 : decode code 251 = .ok (.iload_n 3, 1) := by decide +kernel
theorem dL_252 : decode code 252 = .ok (.iconst 1, 1) := by decide +kernel
theorem dL_253 : decode code 253 = .ok (.iadd, 1) := by decide +kernel
theorem dL_254 : decode code 254 = .ok (.iaload, 1) := by decide +kernel
theorem dL_255 : decode code 255 = .ok (.invokevirtual 27, 3) := by decide +kernel
theorem dL_258 : decode code 258 = .ok (.if_icmp .eq 773, 3) := by decide +kernel
theorem dL_261 : decode code 261 = .ok (.iconst 0, 1) := by decide +kernel
theorem dL_262 : decode code 262 = .ok (.ireturn, 1) := by decide +kernel
theorem dL_263 : decode code 263 = .ok (.aload_n 1, 1) := by decide +kernel
theorem dL_264 : decode code 264 = .ok (.aload_n 0, 1) := by decide +kernel
theorem dL_265 : decode code 265 = .ok (.iload_n 3, 1) := by decide +kernel
theorem dL_266 : decode code 266 = .ok (.iconst 1, 1) := by decide +kernel
theorem dL_267 : decode code 267 = .ok (.iadd, 1) := by decide +kernel
theorem dL_268 : decode code 268 = .ok (.iaload, 1) := by decide +kernel
theorem dL_269 : decode code 269 = .ok (.aload_n 0, 1) := by decide +kernel
theorem dL_270 : decode code 270 = .ok (.iload_n 3, 1) := by decide +kernel
theorem dL_271 : decode code 271 = .ok (.iconst 2, 1) := by decide +kernel
theorem dL_272 : decode code 272 = .ok (.iadd, 1) := by decide +kernel
theorem dL_273 : decode code 273 = .ok (.iaload, 1) := by decide +kernel
theorem dL_274 : decode code 274 = .ok (.invokevirtual 28, 3) := by decide +kernel
theorem dL_277 : decode code 277 = .ok (.aload_n 2, 1) := by decide +kernel
theorem dL_278 : decode code 278 = .ok (.aload_n 0, 1) := by decide +kernel
theorem dL_279 : decode code 279 = .ok (.iload_n 3, 1) := by decide +kernel
theorem dL_280 : decode code 280 = .ok (.iconst 1, 1) := by decide +kernel
theorem dL_281 : decode code 281 = .ok (.iadd, 1) := by decide +kernel
theorem dL_282 : decode code 282 = .ok (.iaload, 1) := by decide +kernel
theorem dL_283 : decode code 283 = .ok (.aload_n 0, 1) := by decide +kernel
theorem dL_284 : decode code 284 = .ok (.iload_n 3, 1) := by decide +kernel
theorem dL_285 : decode code 285 = .ok (.iconst 2, 1) := by decide +kernel
theorem dL_286 : decode code 286 = .ok (.iadd, 1) := by decide +kernel
theorem dL_287 : decode code 287 = .ok (.iaload, 1) := by decide +kernel
theorem dL_288 : decode code 288 = .ok (.invokevirtual 31, 3) := by decide +kernel
theorem dL_291 : decode code 291 = .ok (.if_icmp .eq 740, 3) := by decide +kernel
theorem dL_294 : decode code 294 = .ok (.iconst 0, 1) := by decide +kernel
theorem dL_295 : decode code 295 = .ok (.ireturn, 1) := by decide +kernel
theorem dL_296 : decode code 296 = .ok (.aload_n 1, 1) := by decide +kernel
theorem dL_297 : decode code 297 = .ok (.aload_n 0, 1) := by decide +kernel
theorem dL_298 : decode code 298 = .ok (.iload_n 3, 1) := by decide +kernel
theorem dL_299 : decode code 299 = .ok (.iconst 1, 1) := by decide +kernel
theorem dL_300 : decode code 300 = .ok (.iadd, 1) := by decide +kernel
theorem dL_301 : decode code 301 = .ok (.iaload, 1) := by decide +kernel
theorem dL_302 : decode code 302 = .ok (.aload_n 0, 1) := by decide +kernel
theorem dL_303 : decode code 303 = .ok (.iload_n 3, 1) := by decide +kernel
theorem dL_304 : decode code 304 = .ok (.iconst 2, 1) := by decide +kernel
theorem dL_305 : decode code 305 = .ok (.iadd, 1) := by decide +kernel
theorem dL_306 : decode code 306 = .ok (.iaload, 1) := by decide +kernel
theorem dL_307 : decode code 307 = .ok (.aload_n 0, 1) := by decide +kernel
theorem dL_308 : decode code 308 = .ok (.iload_n 3, 1) := by decide +kernel
theorem dL_309 : decode code 309 = .ok (.iconst 3, 1) := by decide +kernel
theorem dL_310 : decode code 310 = .ok (.iadd, 1) := by decide +kernel
theorem dL_311 : decode code 311 = .ok (.iaload, 1) := by decide +kernel
theorem dL_312 : decode code 312 = .ok (.invokevirtual 32, 3) := by decide +kernel
theorem dL_315 : decode code 315 = .ok (.aload_n 2, 1) := by decide +kernel
theorem dL_316 : decode code 316 = .ok (.aload_n 0, 1) := by decide +kernel
theorem dL_317 : decode code 317 = .ok (.iload_n 3, 1) := by decide +kernel
theorem dL_318 : decode code 318 = .ok (.iconst 1, 1) := by decide +kernel
theorem dL_319 : decode code 319 = .ok (.iadd, 1) := by decide +kernel
theorem dL_320 : decode code 320 = .ok (.iaload, 1) := by decide +kernel
theorem dL_321 : decode code 321 = .ok (.aload_n 0, 1) := by decide +kernel
theorem dL_322 : decode code 322 = .ok (.iload_n 3, 1) := by decide +kernel
theorem dL_323 : decode code 323 = .ok (.iconst 2, 1) := by decide +kernel
theorem dL_324 : decode code 324 = .ok (.iadd, 1) := by decide +kernel
theorem dL_325 : decode code 325 = .ok (.iaload, 1) := by decide +kernel
theorem dL_326 : decode code 326 = .ok (.aload_n 0, 1) := by decide +kernel
theorem dL_327 : decode code 327 = .ok (.iload_n 3, 1) := by decide +kernel
theorem dL_328 : decode code 328 = .ok (.iconst 3, 1) := by decide +kernel
theorem dL_329 : decode code 329 = .ok (.iadd, 1) := by decide +kernel
theorem dL_330 : decode code 330 = .ok (.iaload, 1) := by decide +kernel
theorem dL_331 : decode code 331 = .ok (.invokevirtual 35, 3) := by decide +kernel
theorem dL_334 : decode code 334 = .ok (.if_icmp .eq 697, 3) := by decide +kernel
theorem dL_337 : decode code 337 = .ok (.iconst 0, 1) := by decide +kernel
theorem dL_338 : decode code 338 = .ok (.ireturn, 1) := by decide +kernel
theorem dL_339 : decode code 339 = .ok (.aload_n 1, 1) := by decide +kernel
theorem dL_340 : decode code 340 = .ok (.aload_n 0, 1) := by decide +kernel
theorem dL_341 : decode code 341 = .ok (.iload_n 3, 1) := by decide +kernel
theorem dL_342 : decode code 342 = .ok (.iconst 1, 1) := by decide +kernel
theorem dL_343 : decode code 343 = .ok (.iadd, 1) := by decide +kernel
theorem dL_344 : decode code 344 = .ok (.iaload, 1) := by decide +kernel
theorem dL_345 : decode code 345 = .ok (.aload_n 0, 1) := by decide +kernel
theorem dL_346 : decode code 346 = .ok (.iload_n 3, 1) := by decide +kernel
theorem dL_347 : decode code 347 = .ok (.iconst 2, 1) := by decide +kernel
theorem dL_348 : decode code 348 = .ok (.iadd, 1) := by decide +kernel
theorem dL_349 : decode code 349 = .ok (.iaload, 1) := by decide +kernel
theorem dL_350 : decode code 350 = .ok (.invokevirtual 36, 3) := by decide +kernel
theorem dL_353 : decode code 353 = .ok (.aload_n 2, 1) := by decide +kernel
theorem dL_354 : decode code 354 = .ok (.aload_n 0, 1) := by decide +kernel
theorem dL_355 : decode code 355 = .ok (.iload_n 3, 1) := by decide +kernel
theorem dL_356 : decode code 356 = .ok (.iconst 1, 1) := by decide +kernel
theorem dL_357 : decode code 357 = .ok (.iadd, 1) := by decide +kernel
theorem dL_358 : decode code 358 = .ok (.iaload, 1) := by decide +kernel
theorem dL_359 : decode code 359 = .ok (.aload_n 0, 1) := by decide +kernel
theorem dL_360 : decode code 360 = .ok (.iload_n 3, 1) := by decide +kernel
theorem dL_361 : decode code 361 = .ok (.iconst 2, 1) := by decide +kernel
theorem dL_362 : decode code 362 = .ok (.iadd, 1) := by decide +kernel
theorem dL_363 : decode code 363 = .ok (.iaload, 1) := by decide +kernel
theorem dL_364 : decode code 364 = .ok (.invokevirtual 39, 3) := by decide +kernel
theorem dL_367 : decode code 367 = .ok (.if_icmp .eq 664, 3) := by decide +kernel
theorem dL_370 : decode code 370 = .ok (.iconst 0, 1) := by decide +kernel
theorem dL_371 : decode code 371 = .ok (.ireturn, 1) := by decide +kernel
theorem dL_372 : decode code 372 = .ok (.aload_n 1, 1) := by decide +kernel
theorem dL_373 : decode code 373 = .ok (.aload_n 0, 1) := by decide +kernel
theorem dL_374 : decode code 374 = .ok (.iload_n 3, 1) := by decide +kernel
theorem dL_375 : decode code 375 = .ok (.iconst 1, 1) := by decide +kernel
theorem dL_376 : decode code 376 = .ok (.iadd, 1) := by decide +kernel
theorem dL_377 : decode code 377 = .ok (.iaload, 1) := by decide +kernel
theorem dL_378 : decode code 378 = .ok (.aload_n 0, 1) := by decide +kernel
theorem dL_379 : decode code 379 = .ok (.iload_n 3, 1) := by decide +kernel
theorem dL_380 : decode code 380 = .ok (.iconst 2, 1) := by decide +kernel
theorem dL_381 : decode code 381 = .ok (.iadd, 1) := by decide +kernel
theorem dL_382 : decode code 382 = .ok (.iaload, 1) := by decide +kernel
theorem dL_383 : decode code 383 = .ok (.invokevirtual 40, 3) := by decide +kernel
theorem dL_386 : decode code 386 = .ok (.aload_n 2, 1) := by decide +kernel
theorem dL_387 : decode code 387 = .ok (.aload_n 0, 1) := by decide +kernel
theorem dL_388 : decode code 388 = .ok (.iload_n 3, 1) := by decide +kernel
theorem dL_389 : decode code 389 = .ok (.iconst 1, 1) := by decide +kernel
theorem dL_390 : decode code 390 = .ok (.iadd, 1) := by decide +kernel
theorem dL_391 : decode code 391 = .ok (.iaload, 1) := by decide +kernel
theorem dL_392 : decode code 392 = .ok (.aload_n 0, 1) := by decide +kernel
theorem dL_393 : decode code 393 = .ok (.iload_n 3, 1) := by decide +kernel
theorem dL_394 : decode code 394 = .ok (.iconst 2, 1) := by decide +kernel
theorem dL_395 : decode code 395 = .ok (.iadd, 1) := by decide +kernel
theorem dL_396 : decode code 396 = .ok (.iaload, 1) := by decide +kernel
theorem dL_397 : decode code 397 = .ok (.invokevirtual 43, 3) := by decide +kernel
theorem dL_400 : decode code 400 = .ok (.if_icmp .eq 631, 3) := by decide +kernel
theorem dL_403 : decode code 403 = .ok (.iconst 0, 1) := by decide +kernel
theorem dL_404 : decode code 404 = .ok (.ireturn, 1) := by decide +kernel
theorem dL_405 : decode code 405 = .ok (.aload_n 1, 1) := by decide +kernel
theorem dL_406 : decode code 406 = .ok (.aload_n 0, 1) := by decide +kernel
theorem dL_407 : decode code 407 = .ok (.iload_n 3, 1) := by decide +kernel
theorem dL_408 : decode code 408 = .ok (.iconst 1, 1) := by decide +kernel
theorem dL_409 : decode code 409 = .ok (.iadd, 1) := by decide +kernel
theorem dL_410 : decode code 410 = .ok (.iaload, 1) := by decide +kernel
theorem dL_411 : decode code 411 = .ok (.aload_n 0, 1) := by decide +kernel
theorem dL_412 : decode code 412 = .ok (.iload_n 3, 1) := by decide +kernel
theorem dL_413 : decode code 413 = .ok (.iconst 2, 1) := by decide +kernel
theorem dL_414 : decode code 414 = .ok (.iadd, 1) := by decide +kernel
theorem dL_415 : decode code 415 = .ok (.iaload, 1) := by decide +kernel
theorem dL_416 : decode code 416 = .ok (.aload_n 0, 1) := by decide +kernel
theorem dL_417 : decode code 417 = .ok (.iload_n 3, 1) := by decide +kernel
theorem dL_418 : decode code 418 = .ok (.iconst 3, 1) := by decide +kernel
theorem dL_419 : decode code 419 = .ok (.iadd, 1) := by decide +kernel
theorem dL_420 : decode code 420 = .ok (.iaload, 1) := by decide +kernel
theorem dL_421 : decode code 421 = .ok (.invokevirtual 44, 3) := by decide +kernel
theorem dL_424 : decode code 424 = .ok (.aload_n 2, 1) := by decide +kernel
theorem dL_425 : decode code 425 = .ok (.aload_n 0, 1) := by decide +kernel
theorem dL_426 : decode code 426 = .ok (.iload_n 3, 1) := by decide +kernel
theorem dL_427 : decode code 427 = .ok (.iconst 1, 1) := by decide +kernel
theorem dL_428 : decode code 428 = .ok (.iadd, 1) := by decide +kernel
theorem dL_429 : decode code 429 = .ok (.iaload, 1) := by decide +kernel
theorem dL_430 : decode code 430 = .ok (.aload_n 0, 1) := by decide +kernel
theorem dL_431 : decode code 431 = .ok (.iload_n 3, 1) := by decide +kernel
theorem dL_432 : decode code 432 = .ok (.iconst 2, 1) := by decide +kernel
theorem dL_433 : decode code 433 = .ok (.iadd, 1) := by decide +kernel
theorem dL_434 : decode code 434 = .ok (.iaload, 1) := by decide +kernel
theorem dL_435 : decode code 435 = .ok (.aload_n 0, 1) := by decide +kernel
theorem dL_436 : decode code 436 = .ok (.iload_n 3, 1) := by decide +kernel
theorem dL_437 : decode code 437 = .ok (.iconst 3, 1) := by decide +kernel
theorem dL_438 : decode code 438 = .ok (.iadd, 1) := by decide +kernel
theorem dL_439 : decode code 439 = .ok (.iaload, 1) := by decide +kernel
theorem dL_440 : decode code 440 = .ok (.invokevirtual 47, 3) := by decide +kernel
theorem dL_443 : decode code 443 = .ok (.if_icmp .eq 588, 3) := by decide +kernel
theorem dL_446 : decode code 446 = .ok (.iconst 0, 1) := by decide +kernel
theorem dL_447 : decode code 447 = .ok (.ireturn, 1) := by decide +kernel
theorem dL_448 : decode code 448 = .ok (.aload_n 1, 1) := by decide +kernel
theorem dL_449 : decode code 449 = .ok (.aload_n 0, 1) := by decide +kernel
theorem dL_450 : decode code 450 = .ok (.iload_n 3, 1) := by decide +kernel
theorem dL_451 : decode code 451 = .ok (.iconst 1, 1) := by decide +kernel
theorem dL_452 : decode code 452 = .ok (.iadd, 1) := by decide +kernel
theorem dL_453 : decode code 453 = .ok (.iaload, 1) := by decide +kernel
theorem dL_454 : decode code 454 = .ok (.aload_n 0, 1) := by decide +kernel
theorem dL_455 : decode code 455 = .ok (.iload_n 3, 1) := by decide +kernel
theorem dL_456 : decode code 456 = .ok (.iconst 2, 1) := by decide +kernel
theorem dL_457 : decode code 457 = .ok (.iadd, 1) := by decide +kernel
theorem dL_458 : decode code 458 = .ok (.iaload, 1) := by decide +kernel
theorem dL_459 : decode code 459 = .ok (.invokevirtual 48, 3) := by decide +kernel
theorem dL_462 : decode code 462 = .ok (.aload_n 2, 1) := by decide +kernel
theorem dL_463 : decode code 463 = .ok (.aload_n 0, 1) := by decide +kernel
theorem dL_464 : decode code 464 = .ok (.iload_n 3, 1) := by decide +kernel
theorem dL_465 : decode code 465 = .ok (.iconst 1, 1) := by decide +kernel
theorem dL_466 : decode code 466 = .ok (.iadd, 1) := by decide +kernel
theorem dL_467 : decode code 467 = .ok (.iaload, 1) := by decide +kernel
theorem dL_468 : decode code 468 = .ok (.aload_n 0, 1) := by decide +kernel
theorem dL_469 : decode code 469 = .ok (.iload_n 3, 1) := by decide +kernel
theorem dL_470 : decode code 470 = .ok (.iconst 2, 1) := by decide +kernel
theorem dL_471 : decode code 471 = .ok (.iadd, 1) := by decide +kernel
theorem dL_472 : decode code 472 = .ok (.iaload, 1) := by decide +kernel
theorem dL_473 : decode code 473 = .ok (.invokevirtual 51, 3) := by decide +kernel
theorem dL_476 : decode code 476 = .ok (.if_icmp .eq 555, 3) := by decide +kernel
theorem dL_479 : decode code 479 = .ok (.iconst 0, 1) := by decide +kernel
theorem dL_480 : decode code 480 = .ok (.ireturn, 1) := by decide +kernel
theorem dL_481 : decode code 481 = .ok (.aload_n 1, 1) := by decide +kernel
theorem dL_482 : decode code 482 = .ok (.aload_n 0, 1) := by decide +kernel
theorem dL_483 : decode code 483 = .ok (.iload_n 3, 1) := by decide +kernel
theorem dL_484 : decode code 484 = .ok (.iconst 1, 1) := by decide +kernel
theorem dL_485 : decode code 485 = .ok (.iadd, 1) := by decide +kernel
theorem dL_486 : decode code 486 = .ok (.iaload, 1) := by decide +kernel
theorem dL_487 : decode code 487 = .ok (.aload_n 0, 1) := by decide +kernel
theorem dL_488 : decode code 488 = .ok (.iload_n 3, 1) := by decide +kernel
theorem dL_489 : decode code 489 = .ok (.iconst 2, 1) := by decide +kernel
theorem dL_490 : decode code 490 = .ok (.iadd, 1) := by decide +kernel
theorem dL_491 : decode code 491 = .ok (.iaload, 1) := by decide +kernel
theorem dL_492 : decode code 492 = .ok (.invokevirtual 52, 3) := by decide +kernel
theorem dL_495 : decode code 495 = .ok (.aload_n 2, 1) := by decide +kernel
theorem dL_496 : decode code 496 = .ok (.aload_n 0, 1) := by decide +kernel
theorem dL_497 : decode code 497 = .ok (.iload_n 3, 1) := by decide +kernel
theorem dL_498 : decode code 498 = .ok (.iconst 1, 1) := by decide +kernel
theorem dL_499 : decode code 499 = .ok (.iadd, 1) := by decide +kernel
theorem dL_500 : decode code 500 = .ok (.iaload, 1) := by decide +kernel
theorem dL_501 : decode code 501 = .ok (.aload_n 0, 1) := by decide +kernel
theorem dL_502 : decode code 502 = .ok (.iload_n 3, 1) := by decide +kernel
theorem dL_503 : decode code 503 = .ok (.iconst 2, 1) := by decide +kernel
theorem dL_504 : decode code 504 = .ok (.iadd, 1) := by decide +kernel
theorem dL_505 : decode code 505 = .ok (.iaload, 1) := by decide +kernel
theorem dL_506 : decode code 506 = .ok (.invokevirtual 55, 3) := by decide +kernel
theorem dL_509 : decode code 509 = .ok (.if_icmp .eq 522, 3) := by decide +kernel
theorem dL_512 : decode code 512 = .ok (.iconst 0, 1) := by decide +kernel
theorem dL_513 : decode code 513 = .ok (.ireturn, 1) := by decide +kernel
theorem dL_514 : decode code 514 = .ok (.aload_n 1, 1) := by decide +kernel
theorem dL_515 : decode code 515 = .ok (.aload_n 0, 1) := by decide +kernel
theorem dL_516 : decode code 516 = .ok (.iload_n 3, 1) := by decide +kernel
theorem dL_517 : decode code 517 = .ok (.iconst 1, 1) := by decide +kernel
theorem dL_518 : decode code 518 = .ok (.iadd, 1) := by decide +kernel
theorem dL_519 : decode code 519 = .ok (.iaload, 1) := by decide +kernel
theorem dL_520 : decode code 520 = .ok (.aload_n 0, 1) := by decide +kernel
theorem dL_521 : decode code 521 = .ok (.iload_n 3, 1) := by decide +kernel
theorem dL_522 : decode code 522 = .ok (.iconst 2, 1) := by decide +kernel
theorem dL_523 : decode code 523 = .ok (.iadd, 1) := by decide +kernel
theorem dL_524 : decode code 524 = .ok (.iaload, 1) := by decide +kernel
theorem dL_525 : decode code 525 = .ok (.aload_n 0, 1) := by decide +kernel
theorem dL_526 : decode code 526 = .ok (.iload_n 3, 1) := by decide +kernel
theorem dL_527 : decode code 527 = .ok (.iconst 3, 1) := by decide +kernel
theorem dL_528 : decode code 528 = .ok (.iadd, 1) := by decide +kernel
theorem dL_529 : decode code 529 = .ok (.iaload, 1) := by decide +kernel
theorem dL_530 : decode code 530 = .ok (.invokevirtual 56, 3) := by decide +kernel
theorem dL_533 : decode code 533 = .ok (.aload_n 2, 1) := by decide +kernel
theorem dL_534 : decode code 534 = .ok (.aload_n 0, 1) := by decide +kernel
theorem dL_535 : decode code 535 = .ok (.iload_n 3, 1) := by decide +kernel
theorem dL_536 : decode code 536 = .ok (.iconst 1, 1) := by decide +kernel
theorem dL_537 : decode code 537 = .ok (.iadd, 1) := by decide +kernel
theorem dL_538 : decode code 538 = .ok (.iaload, 1) := by decide +kernel
theorem dL_539 : decode code 539 = .ok (.aload_n 0, 1) := by decide +kernel
theorem dL_540 : decode code 540 = .ok (.iload_n 3, 1) := by decide +kernel
theorem dL_541 : decode code 541 = .ok (.iconst 2, 1) := by decide +kernel
theorem dL_542 : decode code 542 = .ok (.iadd, 1) := by decide +kernel
theorem dL_543 : decode code 543 = .ok (.iaload, 1) := by decide +kernel
theorem dL_544 : decode code 544 = .ok (.aload_n 0, 1) := by decide +kernel
theorem dL_545 : decode code 545 = .ok (.iload_n 3, 1) := by decide +kernel
theorem dL_546 : decode code 546 = .ok (.iconst 3, 1) := by decide +kernel
theorem dL_547 : decode code 547 = .ok (.iadd, 1) := by decide +kernel
theorem dL_548 : decode code 548 = .ok (.iaload, 1) := by decide +kernel
theorem dL_549 : decode code 549 = .ok (.invokevirtual 59, 3) := by decide +kernel
theorem dL_552 : decode code 552 = .ok (.if_icmp .eq 479, 3) := by decide +kernel
theorem dL_555 : decode code 555 = .ok (.iconst 0, 1) := by decide +kernel
theorem dL_556 : decode code 556 = .ok (.ireturn, 1) := by decide +kernel
theorem dL_557 : decode code 557 = .ok (.aload_n 1, 1) := by decide +kernel
theorem dL_558 : decode code 558 = .ok (.invokevirtual 60, 3) := by decide +kernel
theorem dL_561 : decode code 561 = .ok (.aload_n 2, 1) := by decide +kernel
theorem dL_562 : decode code 562 = .ok (.invokevirtual 64, 3) := by decide +kernel
theorem dL_565 : decode code 565 = .ok (.if_icmp .eq 466, 3) := by decide +kernel
theorem dL_568 : decode code 568 = .ok (.iconst 0, 1) := by decide +kernel
theorem dL_569 : decode code 569 = .ok (.ireturn, 1) := by decide +kernel
theorem dL_570 : decode code 570 = .ok (.aload_n 1, 1) := by decide +kernel
theorem dL_571 : decode code 571 = .ok (.aload_n 0, 1) := by decide +kernel
theorem dL_572 : decode code 572 = .ok (.iload_n 3, 1) := by decide +kernel
theorem dL_573 : decode code 573 = .ok (.iconst 1, 1) := by decide +kernel
theorem dL_574 : decode code 574 = .ok (.iadd, 1) := by decide +kernel
theorem dL_575 : decode code 575 = .ok (.iaload, 1) := by decide +kernel
theorem dL_576 : decode code 576 = .ok (.invokevirtual 65, 3) := by decide +kernel
theorem dL_579 : decode code 579 = .ok (.aload_n 2, 1) := by decide +kernel
theorem dL_580 : decode code 580 = .ok (.aload_n 0, 1) := by decide +kernel
theorem dL_581 : decode code 581 = .ok (.iload_n 3, 1) := by decide +kernel
theorem dL_582 : decode code 582 = .ok (.iconst 1, 1) := by decide +kernel
theorem dL_583 : decode code 583 = .ok (.iadd, 1) := by decide +kernel
theorem dL_584 : decode code 584 = .ok (.iaload, 1) := by decide +kernel
theorem dL_585 : decode code 585 = .ok (.invokevirtual 68, 3) := by decide +kernel
theorem dL_588 : decode code 588 = .ok (.if_icmp .eq 443, 3) := by decide +kernel
theorem dL_591 : decode code 591 = .ok (.iconst 0, 1) := by decide +kernel
theorem dL_592 : decode code 592 = .ok (.ireturn, 1) := by decide +kernel
theorem dL_593 : decode code 593 = .ok (.aload_n 1, 1) := by decide +kernel
theorem dL_594 : decode code 594 = .ok (.aload_n 0, 1) := by decide +kernel
theorem dL_595 : decode code 595 = .ok (.iload_n 3, 1) := by decide +kernel
theorem dL_596 : decode code 596 = .ok (.iconst 1, 1) := by decide +kernel
theorem dL_597 : decode code 597 = .ok (.iadd, 1) := by decide +kernel
theorem dL_598 : decode code 598 = .ok (.iaload, 1) := by decide +kernel
theorem dL_599 : decode code 599 = .ok (.aload_n 0, 1) := by decide +kernel
theorem dL_600 : decode code 600 = .ok (.iload_n 3, 1) := by decide +kernel
theorem dL_601 : decode code 601 = .ok (.iconst 2, 1) := by decide +kernel
theorem dL_602 : decode code 602 = .ok (.iadd, 1) := by decide +kernel
theorem dL_603 : decode code 603 = .ok (.iaload, 1) := by decide +kernel
theorem dL_604 : decode code 604 = .ok (.invokevirtual 69, 3) := by decide +kernel
theorem dL_607 : decode code 607 = .ok (.aload_n 2, 1) := by decide +kernel
theorem dL_608 : decode code 608 = .ok (.aload_n 0, 1) := by decide +kernel
theorem dL_609 : decode code 609 = .ok (.iload_n 3, 1) := by decide +kernel
theorem dL_610 : decode code 610 = .ok (.iconst 1, 1) := by decide +kernel
theorem dL_611 : decode code 611 = .ok (.iadd, 1) := by decide +kernel
theorem dL_612 : decode code 612 = .ok (.iaload, 1) := by decide +kernel
theorem dL_613 : decode code 613 = .ok (.aload_n 0, 1) := by decide +kernel
theorem dL_614 : decode code 614 = .ok (.iload_n 3, 1) := by decide +kernel
theorem dL_615 : decode code 615 = .ok (.iconst 2, 1) := by decide +kernel
theorem dL_616 : decode code 616 = .ok (.iadd, 1) := by decide +kernel
theorem dL_617 : decode code 617 = .ok (.iaload, 1) := by decide +kernel
theorem dL_618 : decode code 618 = .ok (.invokevirtual 72, 3) := by decide +kernel
theorem dL_621 : decode code 621 = .ok (.if_icmp .eq 410, 3) := by decide +kernel
theorem dL_624 : decode code 624 = .ok (.iconst 0, 1) := by decide +kernel
theorem dL_625 : decode code 625 = .ok (.ireturn, 1) := by decide +kernel
theorem dL_626 : decode code 626 = .ok (.aload_n 1, 1) := by decide +kernel
theorem dL_627 : decode code 627 = .ok (.aload_n 0, 1) := by decide +kernel
theorem dL_628 : decode code 628 = .ok (.iload_n 3, 1) := by decide +kernel
theorem dL_629 : decode code 629 = .ok (.iconst 1, 1) := by decide +kernel
theorem dL_630 : decode code 630 = .ok (.iadd, 1) := by decide +kernel
theorem dL_631 : decode code 631 = .ok (.iaload, 1) := by decide +kernel
theorem dL_632 : decode code 632 = .ok (.aload_n 0, 1) := by decide +kernel
theorem dL_633 : decode code 633 = .ok (.iload_n 3, 1) := by decide +kernel
theorem dL_634 : decode code 634 = .ok (.iconst 2, 1) := by decide +kernel
theorem dL_635 : decode code 635 = .ok (.iadd, 1) := by decide +kernel
theorem dL_636 : decode code 636 = .ok (.iaload, 1) := by decide +kernel
theorem dL_637 : decode code 637 = .ok (.invokevirtual 73, 3) := by decide +kernel
theorem dL_640 : decode code 640 = .ok (.aload_n 2, 1) := by decide +kernel
theorem dL_641 : decode code 641 = .ok (.aload_n 0, 1) := by decide +kernel
theorem dL_642 : decode code 642 = .ok (.iload_n 3, 1) := by decide +kernel
theorem dL_643 : decode code 643 = .ok (.iconst 1, 1) := by decide +kernel
theorem dL_644 : decode code 644 = .ok (.iadd, 1) := by decide +kernel
theorem dL_645 : decode code 645 = .ok (.iaload, 1) := by decide +kernel
theorem dL_646 : decode code 646 = .ok (.aload_n 0, 1) := by decide +kernel
theorem dL_647 : decode code 647 = .ok (.iload_n 3, 1) := by decide +kernel
theorem dL_648 : decode code 648 = .ok (.iconst 2, 1) := by decide +kernel
theorem dL_649 : decode code 649 = .ok (.iadd, 1) := by decide +kernel
theorem dL_650 : decode code 650 = .ok (.iaload, 1) := by decide +kernel
theorem dL_651 : decode code 651 = .ok (.invokevirtual 76, 3) := by decide +kernel
theorem dL_654 : decode code 654 = .ok (.if_icmp .eq 377, 3) := by decide +kernel
theorem dL_657 : decode code 657 = .ok (.iconst 0, 1) := by decide +kernel
theorem dL_658 : decode code 658 = .ok (.ireturn, 1) := by decide +kernel
theorem dL_659 : decode code 659 = .ok (.aload_n 1, 1) := by decide +kernel
theorem dL_660 : decode code 660 = .ok (.aload_n 0, 1) := by decide +kernel
theorem dL_661 : decode code 661 = .ok (.iload_n 3, 1) := by decide +kernel
theorem dL_662 : decode code 662 = .ok (.iconst 1, 1) := by decide +kernel
theorem dL_663 : decode code 663 = .ok (.iadd, 1) := by decide +kernel
theorem dL_664 : decode code 664 = .ok (.iaload, 1) := by decide +kernel
theorem dL_665 : decode code 665 = .ok (.aload_n 0, 1) := by decide +kernel
theorem dL_666 : decode code 666 = .ok (.iload_n 3, 1) := by decide +kernel
theorem dL_667 : decode code 667 = .ok (.iconst 2, 1) := by decide +kernel
theorem dL_668 : decode code 668 = .ok (.iadd, 1) := by decide +kernel
theorem dL_669 : decode code 669 = .ok (.iaload, 1) := by decide +kernel
theorem dL_670 : decode code 670 = .ok (.aload_n 0, 1) := by decide +kernel
theorem dL_671 : decode code 671 = .ok (.iload_n 3, 1) := by decide +kernel
theorem dL_672 : decode code 672 = .ok (.iconst 3, 1) := by decide +kernel
theorem dL_673 : decode code 673 = .ok (.iadd, 1) := by decide +kernel
theorem dL_674 : decode code 674 = .ok (.iaload, 1) := by decide +kernel
theorem dL_675 : decode code 675 = .ok (.aload_n 0, 1) := by decide +kernel
theorem dL_676 : decode code 676 = .ok (.iload_n 3, 1) := by decide +kernel
theorem dL_677 : decode code 677 = .ok (.iconst 4, 1) := by decide +kernel
theorem dL_678 : decode code 678 = .ok (.iadd, 1) := by decide +kernel
theorem dL_679 : decode code 679 = .ok (.iaload, 1) := by decide +kernel
theorem dL_680 : decode code 680 = .ok (.invokevirtual 77, 3) := by decide +kernel
theorem dL_683 : decode code 683 = .ok (.aload_n 2, 1) := by decide +kernel
theorem dL_684 : decode code 684 = .ok (.aload_n 0, 1) := by decide +kernel
theorem dL_685 : decode code 685 = .ok (.iload_n 3, 1) := by decide +kernel
theorem dL_686 : decode code 686 = .ok (.iconst 1, 1) := by decide +kernel
theorem dL_687 : decode code 687 = .ok (.iadd, 1) := by decide +kernel
theorem dL_688 : decode code 688 = .ok (.iaload, 1) := by decide +kernel
theorem dL_689 : decode code 689 = .ok (.aload_n 0, 1) := by decide +kernel
theorem dL_690 : decode code 690 = .ok (.iload_n 3, 1) := by decide +kernel
theorem dL_691 : decode code 691 = .ok (.iconst 2, 1) := by decide +kernel
theorem dL_692 : decode code 692 = .ok (.iadd, 1) := by decide +kernel
theorem dL_693 : decode code 693 = .ok (.iaload, 1) := by decide +kernel
theorem dL_694 : decode code 694 = .ok (.aload_n 0, 1) := by decide +kernel
theorem dL_695 : decode code 695 = .ok (.iload_n 3, 1) := by decide +kernel
theorem dL_696 : decode code 696 = .ok (.iconst 3, 1) := by decide +kernel
theorem dL_697 : decode code 697 = .ok (.iadd, 1) := by decide +kernel
theorem dL_698 : decode code 698 = .ok (.iaload, 1) := by decide +kernel
theorem dL_699 : decode code 699 = .ok (.aload_n 0, 1) := by decide +kernel
theorem dL_700 : decode code 700 = .ok (.iload_n 3, 1) := by decide +kernel
theorem dL_701 : decode code 701 = .ok (.iconst 4, 1) := by decide +kernel
theorem dL_702 : decode code 702 = .ok (.iadd, 1) := by decide +kernel
theorem dL_703 : decode code 703 = .ok (.iaload, 1) := by decide +kernel
theorem dL_704 : decode code 704 = .ok (.invokevirtual 81, 3) := by decide +kernel
theorem dL_707 : decode code 707 = .ok (.if_icmp .eq 324, 3) := by decide +kernel
theorem dL_710 : decode code 710 = .ok (.iconst 0, 1) := by decide +kernel
theorem dL_711 : decode code 711 = .ok (.ireturn, 1) := by decide +kernel
theorem dL_712 : decode code 712 = .ok (.aload_n 1, 1) := by decide +kernel
theorem dL_713 : decode code 713 = .ok (.aload_n 0, 1) := by decide +kernel
theorem dL_714 : decode code 714 = .ok (.iload_n 3, 1) := by decide +kernel
theorem dL_715 : decode code 715 = .ok (.iconst 1, 1) := by decide +kernel
theorem dL_716 : decode code 716 = .ok (.iadd, 1) := by decide +kernel
theorem dL_717 : decode code 717 = .ok (.iaload, 1) := by decide +kernel
theorem dL_718 : decode code 718 = .ok (.invokevirtual 82, 3) := by decide +kernel
theorem dL_721 : decode code 721 = .ok (.aload_n 2, 1) := by decide +kernel
theorem dL_722 : decode code 722 = .ok (.aload_n 0, 1) := by decide +kernel
theorem dL_723 : decode code 723 = .ok (.iload_n 3, 1) := by decide +kernel
theorem dL_724 : decode code 724 = .ok (.iconst 1, 1) := by decide +kernel
theorem dL_725 : decode code 725 = .ok (.iadd, 1) := by decide +kernel
theorem dL_726 : decode code 726 = .ok (.iaload, 1) := by decide +kernel
theorem dL_727 : decode code 727 = .ok (.invokevirtual 85, 3) := by decide +kernel
theorem dL_730 : decode code 730 = .ok (.if_icmp .eq 301, 3) := by decide +kernel
theorem dL_733 : decode code 733 = .ok (.iconst 0, 1) := by decide +kernel
theorem dL_734 : decode code 734 = .ok (.ireturn, 1) := by decide +kernel
theorem dL_735 : decode code 735 = .ok (.aload_n 1, 1) := by decide +kernel
theorem dL_736 : decode code 736 = .ok (.aload_n 0, 1) := by decide +kernel
theorem dL_737 : decode code 737 = .ok (.iload_n 3, 1) := by decide +kernel
theorem dL_738 : decode code 738 = .ok (.iconst 1, 1) := by decide +kernel
theorem dL_739 : decode code 739 = .ok (.iadd, 1) := by decide +kernel
theorem dL_740 : decode code 740 = .ok (.iaload, 1) := by decide +kernel
theorem dL_741 : decode code 741 = .ok (.invokevirtual 86, 3) := by decide +kernel
theorem dL_744 : decode code 744 = .ok (.aload_n 2, 1) := by decide +kernel
theorem dL_745 : decode code 745 = .ok (.aload_n 0, 1) := by decide +kernel
theorem dL_746 : decode code 746 = .ok (.iload_n 3, 1) := by decide +kernel
theorem dL_747 : decode code 747 = .ok (.iconst 1, 1) := by decide +kernel
theorem dL_748 : decode code 748 = .ok (.iadd, 1) := by decide +kernel
theorem dL_749 : decode code 749 = .ok (.iaload, 1) := by decide +kernel
theorem dL_750 : decode code 750 = .ok (.invokevirtual 89, 3) := by decide +kernel
theorem dL_753 : decode code 753 = .ok (.if_icmp .eq 278, 3) := by decide +kernel
theorem dL_756 : decode code 756 = .ok (.iconst 0, 1) := by decide +kernel
theorem dL_757 : decode code 757 = .ok (.ireturn, 1) := by decide +kernel
theorem dL_758 : decode code 758 = .ok (.aload_n 1, 1) := by decide +kernel
theorem dL_759 : decode code 759 = .ok (.aload_n 0, 1) := by decide +kernel
theorem dL_760 : decode code 760 = .ok (.iload_n 3, 1) := by decide +kernel
theorem dL_761 : decode code 761 = .ok (.iconst 1, 1) := by decide +kernel
theorem dL_762 : decode code 762 = .ok (.iadd, 1) := by decide +kernel
theorem dL_763 : decode code 763 = .ok (.iaload, 1) := by decide +kernel
theorem dL_764 : decode code 764 = .ok (.invokevirtual 90, 3) := by decide +kernel
theorem dL_767 : decode code 767 = .ok (.aload_n 2, 1) := by decide +kernel
theorem dL_768 : decode code 768 = .ok (.aload_n 0, 1) := by decide +kernel
theorem dL_769 : decode code 769 = .ok (.iload_n 3, 1) := by decide +kernel
theorem dL_770 : decode code 770 = .ok (.iconst 1, 1) := by decide +kernel
theorem dL_771 : decode code 771 = .ok (.iadd, 1) := by decide +kernel
theorem dL_772 : decode code 772 = .ok (.iaload, 1) := by decide +kernel
theorem dL_773 : decode code 773 = .ok (.invokevirtual 93, 3) := by decide +kernel
theorem dL_776 : decode code 776 = .ok (.if_icmp .eq 255, 3) := by decide +kernel
theorem dL_779 : decode code 779 = .ok (.iconst 0, 1) := by decide +kernel
theorem dL_780 : decode code 780 = .ok (.ireturn, 1) := by decide +kernel
theorem dL_781 : decode code 781 = .ok (.aload_n 1, 1) := by decide +kernel
theorem dL_782 : decode code 782 = .ok (.aload_n 0, 1) := by decide +kernel
theorem dL_783 : decode code 783 = .ok (.iload_n 3, 1) := by decide +kernel
theorem dL_784 : decode code 784 = .ok (.iconst 1, 1) := by decide +kernel
theorem dL_785 : decode code 785 = .ok (.iadd, 1) := by decide +kernel
theorem dL_786 : decode code 786 = .ok (.iaload, 1) := by decide +kernel
theorem dL_787 : decode code 787 = .ok (.aload_n 0, 1) := by decide +kernel
theorem dL_788 : decode code 788 = .ok (.iload_n 3, 1) := by decide +kernel
theorem dL_789 : decode code 789 = .ok (.iconst 2, 1) := by decide +kernel
theorem dL_790 : decode code 790 = .ok (.iadd, 1) := by decide +kernel
theorem dL_791 : decode code 791 = .ok (.iaload, 1) := by decide +kernel
theorem dL_792 : decode code 792 = .ok (.aload_n 0, 1) := by decide +kernel
theorem dL_793 : decode code 793 = .ok (.iload_n 3, 1) := by decide +kernel
theorem dL_794 : decode code 794 = .ok (.iconst 3, 1) := by decide +kernel
theorem dL_795 : decode code 795 = .ok (.iadd, 1) := by decide +kernel
theorem dL_796 : decode code 796 = .ok (.iaload, 1) := by decide +kernel
theorem dL_797 : decode code 797 = .ok (.invokevirtual 94, 3) := by decide +kernel
theorem dL_800 : decode code 800 = .ok (.aload_n 2, 1) := by decide +kernel
theorem dL_801 : decode code 801 = .ok (.aload_n 0, 1) := by decide +kernel
theorem dL_802 : decode code 802 = .ok (.iload_n 3, 1) := by decide +kernel
theorem dL_803 : decode code 803 = .ok (.iconst 1, 1) := by decide +kernel
theorem dL_804 : decode code 804 = .ok (.iadd, 1) := by decide +kernel
theorem dL_805 : decode code 805 = .ok (.iaload, 1) := by decide +kernel
theorem dL_806 : decode code 806 = .ok (.aload_n 0, 1) := by decide +kernel
theorem dL_807 : decode code 807 = .ok (.iload_n 3, 1) := by decide +kernel
theorem dL_808 : decode code 808 = .ok (.iconst 2, 1) := by decide +kernel
theorem dL_809 : decode code 809 = .ok (.iadd, 1) := by decide +kernel
theorem dL_810 : decode code 810 = .ok (.iaload, 1) := by decide +kernel
theorem dL_811 : decode code 811 = .ok (.aload_n 0, 1) := by decide +kernel
theorem dL_812 : decode code 812 = .ok (.iload_n 3, 1) := by decide +kernel
theorem dL_813 : decode code 813 = .ok (.iconst 3, 1) := by decide +kernel
theorem dL_814 : decode code 814 = .ok (.iadd, 1) := by decide +kernel
theorem dL_815 : decode code 815 = .ok (.iaload, 1) := by decide +kernel
theorem dL_816 : decode code 816 = .ok (.invokevirtual 97, 3) := by decide +kernel
theorem dL_819 : decode code 819 = .ok (.if_icmp .eq 212, 3) := by decide +kernel
theorem dL_822 : decode code 822 = .ok (.iconst 0, 1) := by decide +kernel
theorem dL_823 : decode code 823 = .ok (.ireturn, 1) := by decide +kernel
theorem dL_824 : decode code 824 = .ok (.aload_n 1, 1) := by decide +kernel
theorem dL_825 : decode code 825 = .ok (.aload_n 0, 1) := by decide +kernel
theorem dL_826 : decode code 826 = .ok (.iload_n 3, 1) := by decide +kernel
theorem dL_827 : decode code 827 = .ok (.iconst 1, 1) := by decide +kernel
theorem dL_828 : decode code 828 = .ok (.iadd, 1) := by decide +kernel
theorem dL_829 : decode code 829 = .ok (.iaload, 1) := by decide +kernel
theorem dL_830 : decode code 830 = .ok (.aload_n 0, 1) := by decide +kernel
theorem dL_831 : decode code 831 = .ok (.iload_n 3, 1) := by decide +kernel
theorem dL_832 : decode code 832 = .ok (.iconst 2, 1) := by decide +kernel
theorem dL_833 : decode code 833 = .ok (.iadd, 1) := by decide +kernel
theorem dL_834 : decode code 834 = .ok (.iaload, 1) := by decide +kernel
theorem dL_835 : decode code 835 = .ok (.aload_n 0, 1) := by decide +kernel
theorem dL_836 : decode code 836 = .ok (.iload_n 3, 1) := by decide +kernel
theorem dL_837 : decode code 837 = .ok (.iconst 3, 1) := by decide +kernel
theorem dL_838 : decode code 838 = .ok (.iadd, 1) := by decide +kernel
theorem dL_839 : decode code 839 = .ok (.iaload, 1) := by decide +kernel
theorem dL_840 : decode code 840 = .ok (.invokevirtual 98, 3) := by decide +kernel
theorem dL_843 : decode code 843 = .ok (.aload_n 2, 1) := by decide +kernel
theorem dL_844 : decode code 844 = .ok (.aload_n 0, 1) := by decide +kernel
theorem dL_845 : decode code 845 = .ok (.iload_n 3, 1) := by decide +kernel
theorem dL_846 : decode code 846 = .ok (.iconst 1, 1) := by decide +kernel
theorem dL_847 : decode code 847 = .ok (.iadd, 1) := by decide +kernel
theorem dL_848 : decode code 848 = .ok (.iaload, 1) := by decide +kernel
theorem dL_849 : decode code 849 = .ok (.aload_n 0, 1) := by decide +kernel
theorem dL_850 : decode code 850 = .ok (.iload_n 3, 1) := by decide +kernel
theorem dL_851 : decode code 851 = .ok (.iconst 2, 1) := by decide +kernel
theorem dL_852 : decode code 852 = .ok (.iadd, 1) := by decide +kernel
theorem dL_853 : decode code 853 = .ok (.iaload, 1) := by decide +kernel
theorem dL_854 : decode code 854 = .ok (.aload_n 0, 1) := by decide +kernel
theorem dL_855 : decode code 855 = .ok (.iload_n 3, 1) := by decide +kernel
theorem dL_856 : decode code 856 = .ok (.iconst 3, 1) := by decide +kernel
theorem dL_857 : decode code 857 = .ok (.iadd, 1) := by decide +kernel
theorem dL_858 : decode code 858 = .ok (.iaload, 1) := by decide +kernel
theorem dL_859 : decode code 859 = .ok (.invokevirtual 101, 3) := by decide +kernel
theorem dL_862 : decode code 862 = .ok (.if_icmp .eq 169, 3) := by decide +kernel
theorem dL_865 : decode code 865 = .ok (.iconst 0, 1) := by decide +kernel
theorem dL_866 : decode code 866 = .ok (.ireturn, 1) := by decide +kernel
theorem dL_867 : decode code 867 = .ok (.aload_n 1, 1) := by decide +kernel
theorem dL_868 : decode code 868 = .ok (.aload_n 0, 1) := by decide +kernel
theorem dL_869 : decode code 869 = .ok (.iload_n 3, 1) := by decide +kernel
theorem dL_870 : decode code 870 = .ok (.iconst 1, 1) := by decide +kernel
theorem dL_871 : decode code 871 = .ok (.iadd, 1) := by decide +kernel
theorem dL_872 : decode code 872 = .ok (.iaload, 1) := by decide +kernel
theorem dL_873 : decode code 873 = .ok (.i2l, 1) := by decide +kernel
theorem dL_874 : decode code 874 = .ok (.bipush 32, 2) := by decide +kernel
theorem dL_876 : decode code 876 = .ok (.lshl, 1) := by decide +kernel
theorem dL_877 : decode code 877 = .ok (.aload_n 0, 1) := by decide +kernel
theorem dL_878 : decode code 878 = .ok (.iload_n 3, 1) := by decide +kernel
theorem dL_879 : decode code 879 = .ok (.iconst 2, 1) := by decide +kernel
theorem dL_880 : decode code 880 = .ok (.iadd, 1) := by decide +kernel
theorem dL_881 : decode code 881 = .ok (.iaload, 1) := by decide +kernel
theorem dL_882 : decode code 882 = .ok (.i2l, 1) := by decide +kernel
theorem dL_883 : decode code 883 = .ok (.ldc2_w 102, 3) := by decide +kernel
theorem dL_886 : decode code 886 = .ok (.land, 1) := by decide +kernel
theorem dL_887 : decode code 887 = .ok (.lor, 1) := by decide +kernel
theorem dL_888 : decode code 888 = .ok (.aload_n 0, 1) := by decide +kernel
theorem dL_889 : decode code 889 = .ok (.iload_n 3, 1) := by decide +kernel
theorem dL_890 : decode code 890 = .ok (.iconst 3, 1) := by decide +kernel
theorem dL_891 : decode code 891 = .ok (.iadd, 1) := by decide +kernel
theorem dL_892 : decode code 892 = .ok (.iaload, 1) := by decide +kernel
theorem dL_893 : decode code 893 = .ok (.invokevirtual 104, 3) := by decide +kernel
theorem dL_896 : decode code 896 = .ok (.aload_n 2, 1) := by decide +kernel
theorem dL_897 : decode code 897 = .ok (.aload_n 0, 1) := by decide +kernel
theorem dL_898 : decode code 898 = .ok (.iload_n 3, 1) := by decide +kernel
theorem dL_899 : decode code 899 = .ok (.iconst 1, 1) := by decide +kernel
theorem dL_900 : decode code 900 = .ok (.iadd, 1) := by decide +kernel
theorem dL_901 : decode code 901 = .ok (.iaload, 1) := by decide +kernel
theorem dL_902 : decode code 902 = .ok (.i2l, 1) := by decide +kernel
theorem dL_903 : decode code 903 = .ok (.bipush 32, 2) := by decide +kernel
theorem dL_905 : decode code 905 = .ok (.lshl, 1) := by decide +kernel
theorem dL_906 : decode code 906 = .ok (.aload_n 0, 1) := by decide +kernel
theorem dL_907 : decode code 907 = .ok (.iload_n 3, 1) := by decide +kernel
theorem dL_908 : decode code 908 = .ok (.iconst 2, 1) := by decide +kernel
theorem dL_909 : decode code 909 = .ok (.iadd, 1) := by decide +kernel
theorem dL_910 : decode code 910 = .ok (.iaload, 1) := by decide +kernel
theorem dL_911 : decode code 911 = .ok (.i2l, 1) := by decide +kernel
theorem dL_912 : decode code 912 = .ok (.ldc2_w 102, 3) := by decide +kernel
theorem dL_915 : decode code 915 = .ok (.land, 1) := by decide +kernel
theorem dL_916 : decode code 916 = .ok (.lor, 1) := by decide +kernel
theorem dL_917 : decode code 917 = .ok (.aload_n 0, 1) := by decide +kernel
theorem dL_918 : decode code 918 = .ok (.iload_n 3, 1) := by decide +kernel
theorem dL_919 : decode code 919 = .ok (.iconst 3, 1) := by decide +kernel
theorem dL_920 : decode code 920 = .ok (.iadd, 1) := by decide +kernel
theorem dL_921 : decode code 921 = .ok (.iaload, 1) := by decide +kernel
theorem dL_922 : decode code 922 = .ok (.invokevirtual 108, 3) := by decide +kernel
theorem dL_925 : decode code 925 = .ok (.if_icmp .eq 106, 3) := by decide +kernel
theorem dL_928 : decode code 928 = .ok (.iconst 0, 1) := by decide +kernel
theorem dL_929 : decode code 929 = .ok (.ireturn, 1) := by decide +kernel
theorem dL_930 : decode code 930 = .ok (.aload_n 1, 1) := by decide +kernel
theorem dL_931 : decode code 931 = .ok (.invokevirtual 109, 3) := by decide +kernel
theorem dL_934 : decode code 934 = .ok (.aload_n 2, 1) := by decide +kernel
theorem dL_935 : decode code 935 = .ok (.invokevirtual 112, 3) := by decide +kernel
theorem dL_938 : decode code 938 = .ok (.if_icmp .eq 93, 3) := by decide +kernel
theorem dL_941 : decode code 941 = .ok (.iconst 0, 1) := by decide +kernel
theorem dL_942 : decode code 942 = .ok (.ireturn, 1) := by decide +kernel
theorem dL_943 : decode code 943 = .ok (.aload_n 1, 1) := by decide +kernel
theorem dL_944 : decode code 944 = .ok (.invokevirtual 113, 3) := by decide +kernel
theorem dL_947 : decode code 947 = .ok (.aload_n 2, 1) := by decide +kernel
theorem dL_948 : decode code 948 = .ok (.invokevirtual 116, 3) := by decide +kernel
theorem dL_951 : decode code 951 = .ok (.if_icmp .eq 80, 3) := by decide +kernel
theorem dL_954 : decode code 954 = .ok (.iconst 0, 1) := by decide +kernel
theorem dL_955 : decode code 955 = .ok (.ireturn, 1) := by decide +kernel
theorem dL_956 : decode code 956 = .ok (.aload_n 1, 1) := by decide +kernel
theorem dL_957 : decode code 957 = .ok (.invokevirtual 117, 3) := by decide +kernel
theorem dL_960 : decode code 960 = .ok (.aload_n 2, 1) := by decide +kernel
theorem dL_961 : decode code 961 = .ok (.invokevirtual 120, 3) := by decide +kernel
theorem dL_964 : decode code 964 = .ok (.if_icmp .eq 67, 3) := by decide +kernel
theorem dL_967 : decode code 967 = .ok (.iconst 0, 1) := by decide +kernel
theorem dL_968 : decode code 968 = .ok (.ireturn, 1) := by decide +kernel
theorem dL_969 : decode code 969 = .ok (.aload_n 1, 1) := by decide +kernel
theorem dL_970 : decode code 970 = .ok (.invokevirtual 121, 3) := by decide +kernel
theorem dL_973 : decode code 973 = .ok (.aload_n 2, 1) := by decide +kernel
theorem dL_974 : decode code 974 = .ok (.invokevirtual 124, 3) := by decide +kernel
theorem dL_977 : decode code 977 = .ok (.if_icmp .eq 54, 3) := by decide +kernel
theorem dL_980 : decode code 980 = .ok (.iconst 0, 1) := by decide +kernel
theorem dL_981 : decode code 981 = .ok (.ireturn, 1) := by decide +kernel
theorem dL_982 : decode code 982 = .ok (.aload_n 1, 1) := by decide +kernel
theorem dL_983 : decode code 983 = .ok (.invokevirtual 125, 3) := by decide +kernel
theorem dL_986 : decode code 986 = .ok (.aload_n 2, 1) := by decide +kernel
theorem dL_987 : decode code 987 = .ok (.invokevirtual 128, 3) := by decide +kernel
theorem dL_990 : decode code 990 = .ok (.if_icmp .eq 41, 3) := by decide +kernel
theorem dL_993 : decode code 993 = .ok (.iconst 0, 1) := by decide +kernel
theorem dL_994 : decode code 994 = .ok (.ireturn, 1) := by decide +kernel
theorem dL_995 : decode code 995 = .ok (.aload_n 1, 1) := by decide +kernel
theorem dL_996 : decode code 996 = .ok (.invokevirtual 129, 3) := by decide +kernel
theorem dL_999 : decode code 999 = .ok (.aload_n 2, 1) := by decide +kernel
theorem dL_1000 : decode code 1000 = .ok (.invokevirtual 132, 3) := by decide +kernel
theorem dL_1003 : decode code 1003 = .ok (.if_icmp .eq 28, 3) := by decide +kernel
theorem dL_1006 : decode code 1006 = .ok (.iconst 0, 1) := by decide +kernel
theorem dL_1007 : decode code 1007 = .ok (.ireturn, 1) := by decide +kernel
theorem dL_1008 : decode code 1008 = .ok (.aload_n 1, 1) := by decide +kernel
theorem dL_1009 : decode code 1009 = .ok (.aload_n 0, 1) := by decide +kernel
theorem dL_1010 : decode code 1010 = .ok (.iload_n 3, 1) := by decide +kernel
theorem dL_1011 : decode code 1011 = .ok (.iconst 1, 1) := by decide +kernel
theorem dL_1012 : decode code 1012 = .ok (.iadd, 1) := by decide +kernel
theorem dL_1013 : decode code 1013 = .ok (.iaload, 1) := by decide +kernel
theorem dL_1014 : decode code 1014 = .ok (.invokevirtual 133, 3) := by decide +kernel
theorem dL_1017 : decode code 1017 = .ok (.aload_n 2, 1) := by decide +kernel
theorem dL_1018 : decode code 1018 = .ok (.aload_n 0, 1) := by decide +kernel
theorem dL_1019 : decode code 1019 = .ok (.iload_n 3, 1) := by decide +kernel
theorem dL_1020 : decode code 1020 = .ok (.iconst 1, 1) := by decide +kernel
theorem dL_1021 : decode code 1021 = .ok (.iadd, 1) := by decide +kernel
theorem dL_1022 : decode code 1022 = .ok (.iaload, 1) := by decide +kernel
theorem dL_1023 : decode code 1023 = .ok (.invokevirtual 136, 3) := by decide +kernel
theorem dL_1026 : decode code 1026 = .ok (.if_icmp .eq 5, 3) := by decide +kernel
theorem dL_1029 : decode code 1029 = .ok (.iconst 0, 1) := by decide +kernel
theorem dL_1030 : decode code 1030 = .ok (.ireturn, 1) := by decide +kernel
theorem dL_1031 : decode code 1031 = .ok (.iinc 3 5, 3) := by decide +kernel
theorem dL_1034 : decode code 1034 = .ok (.goto (-1016), 3) := by decide +kernel
theorem dL_1037 : decode code 1037 = .ok (.iconst 1, 1) := by decide +kernel
theorem dL_1038 : decode code 1038 = .ok (.ireturn, 1) := by decide +kernel
def om_F : Nat := 100000
/-- two functions answer alike, and the state stays good -/
def om_ok (Inv : om_M → Prop) (f g : om_M → Option (Int32 × om_M)) (M : om_M) : Prop := ∃ r M1 M2, f M = some (r, M1) ∧ g M1 = some (r, M2) ∧ Inv M2
def om_ok0 (Inv : om_M → Prop) (M : om_M) : Prop := ∀ (x0 : Int32) (x1 : Int32), om_ok Inv (fun M => om_C_place om_F x0 x1 M) (fun M => om_D_place om_F x0 x1 M) M
def om_ok1 (Inv : om_M → Prop) (M : om_M) : Prop := ∀ (x0 : Int32) (x1 : Int32) (x2 : Int32), om_ok Inv (fun M => om_C_arrow om_F x0 x1 x2 M) (fun M => om_D_arrow om_F x0 x1 x2 M) M
def om_ok2 (Inv : om_M → Prop) (M : om_M) : Prop := ∀ (x0 : Int32), om_ok Inv (fun M => om_C_cut om_F x0 M) (fun M => om_D_cut om_F x0 M) M
def om_ok3 (Inv : om_M → Prop) (M : om_M) : Prop := ∀ (x0 : Int32) (x1 : Int32), om_ok Inv (fun M => om_C_give om_F x0 x1 M) (fun M => om_D_give om_F x0 x1 M) M
def om_ok4 (Inv : om_M → Prop) (M : om_M) : Prop := ∀ (x0 : Int32) (x1 : Int32) (x2 : Int32), om_ok Inv (fun M => om_C_set om_F x0 x1 x2 M) (fun M => om_D_set om_F x0 x1 x2 M) M
def om_ok5 (Inv : om_M → Prop) (M : om_M) : Prop := ∀ (x0 : Int32) (x1 : Int32), om_ok Inv (fun M => om_C_from om_F x0 x1 M) (fun M => om_D_from om_F x0 x1 M) M
def om_ok6 (Inv : om_M → Prop) (M : om_M) : Prop := ∀ (x0 : Int32) (x1 : Int32), om_ok Inv (fun M => om_C_forced om_F x0 x1 M) (fun M => om_D_forced om_F x0 x1 M) M
def om_ok7 (Inv : om_M → Prop) (M : om_M) : Prop := ∀ (x0 : Int32) (x1 : Int32) (x2 : Int32), om_ok Inv (fun M => om_C_steps om_F x0 x1 x2 M) (fun M => om_D_steps om_F x0 x1 x2 M) M
def om_ok8 (Inv : om_M → Prop) (M : om_M) : Prop := ∀ (x0 : Int32) (x1 : Int32), om_ok Inv (fun M => om_C_kept om_F x0 x1 M) (fun M => om_D_kept om_F x0 x1 M) M
def om_ok9 (Inv : om_M → Prop) (M : om_M) : Prop := ∀ (x0 : Int32) (x1 : Int32), om_ok Inv (fun M => om_C_again om_F x0 x1 M) (fun M => om_D_again om_F x0 x1 M) M
def om_ok10 (Inv : om_M → Prop) (M : om_M) : Prop := ∀ (x0 : Int32) (x1 : Int32) (x2 : Int32), om_ok Inv (fun M => om_C_both om_F x0 x1 x2 M) (fun M => om_D_both om_F x0 x1 x2 M) M
def om_ok11 (Inv : om_M → Prop) (M : om_M) : Prop :=  om_ok Inv (fun M => om_C_won om_F  M) (fun M => om_D_won om_F  M) M
def om_ok12 (Inv : om_M → Prop) (M : om_M) : Prop := ∀ (x0 : Int32), om_ok Inv (fun M => om_C_plan om_F x0 M) (fun M => om_D_plan om_F x0 M) M
def om_ok13 (Inv : om_M → Prop) (M : om_M) : Prop := ∀ (x0 : Int32) (x1 : Int32), om_ok Inv (fun M => om_C_after om_F x0 x1 M) (fun M => om_D_after om_F x0 x1 M) M
def om_ok14 (Inv : om_M → Prop) (M : om_M) : Prop := ∀ (x0 : Int32) (x1 : Int32), om_ok Inv (fun M => om_C_mean om_F x0 x1 M) (fun M => om_D_mean om_F x0 x1 M) M
def om_ok15 (Inv : om_M → Prop) (M : om_M) : Prop := ∀ (x0 : Int32) (x1 : Int32) (x2 : Int32) (x3 : Int32), om_ok Inv (fun M => om_C_rate om_F x0 x1 x2 x3 M) (fun M => om_D_rate om_F x0 x1 x2 x3 M) M
def om_ok16 (Inv : om_M → Prop) (M : om_M) : Prop := ∀ (x0 : Int32), om_ok Inv (fun M => om_C_tell om_F x0 M) (fun M => om_D_tell om_F x0 M) M
def om_ok17 (Inv : om_M → Prop) (M : om_M) : Prop := ∀ (x0 : Int32), om_ok Inv (fun M => om_C_untell om_F x0 M) (fun M => om_D_untell om_F x0 M) M
def om_ok18 (Inv : om_M → Prop) (M : om_M) : Prop := ∀ (x0 : Int32), om_ok Inv (fun M => om_C_judged om_F x0 M) (fun M => om_D_judged om_F x0 M) M
def om_ok19 (Inv : om_M → Prop) (M : om_M) : Prop := ∀ (x0 : Int32) (x1 : Int32) (x2 : Int32), om_ok Inv (fun M => om_C_breaker om_F x0 x1 x2 M) (fun M => om_D_breaker om_F x0 x1 x2 M) M
def om_ok20 (Inv : om_M → Prop) (M : om_M) : Prop := ∀ (x0 : Int32) (x1 : Int32) (x2 : Int32), om_ok Inv (fun M => om_C_worth om_F x0 x1 x2 M) (fun M => om_D_worth om_F x0 x1 x2 M) M
def om_ok21 (Inv : om_M → Prop) (M : om_M) : Prop := ∀ (x0 : Int64) (x1 : Int32), om_ok Inv (fun M => om_C_write om_F x0 x1 M) (fun M => om_D_write om_F x0 x1 M) M
def om_ok22 (Inv : om_M → Prop) (M : om_M) : Prop :=  om_ok Inv (fun M => om_C_erase om_F  M) (fun M => om_D_erase om_F  M) M
def om_ok23 (Inv : om_M → Prop) (M : om_M) : Prop :=  om_ok Inv (fun M => om_C_fault om_F  M) (fun M => om_D_fault om_F  M) M
def om_ok24 (Inv : om_M → Prop) (M : om_M) : Prop :=  om_ok Inv (fun M => om_C_ask om_F  M) (fun M => om_D_ask om_F  M) M
def om_ok25 (Inv : om_M → Prop) (M : om_M) : Prop :=  om_ok Inv (fun M => om_C_holds om_F  M) (fun M => om_D_holds om_F  M) M
def om_ok26 (Inv : om_M → Prop) (M : om_M) : Prop :=  om_ok Inv (fun M => om_C_turned om_F  M) (fun M => om_D_turned om_F  M) M
def om_ok27 (Inv : om_M → Prop) (M : om_M) : Prop :=  om_ok Inv (fun M => om_C_bought om_F  M) (fun M => om_D_bought om_F  M) M
def om_ok28 (Inv : om_M → Prop) (M : om_M) : Prop := ∀ (x0 : Int32), om_ok Inv (fun M => om_C_count om_F x0 M) (fun M => om_D_count om_F x0 M) M
def om_AllOK (Inv : om_M → Prop) : Prop := ∀ M, Inv M → om_ok0 Inv M ∧ om_ok1 Inv M ∧ om_ok2 Inv M ∧ om_ok3 Inv M ∧ om_ok4 Inv M ∧ om_ok5 Inv M ∧ om_ok6 Inv M ∧ om_ok7 Inv M ∧ om_ok8 Inv M ∧ om_ok9 Inv M ∧ om_ok10 Inv M ∧ om_ok11 Inv M ∧ om_ok12 Inv M ∧ om_ok13 Inv M ∧ om_ok14 Inv M ∧ om_ok15 Inv M ∧ om_ok16 Inv M ∧ om_ok17 Inv M ∧ om_ok18 Inv M ∧ om_ok19 Inv M ∧ om_ok20 Inv M ∧ om_ok21 Inv M ∧ om_ok22 Inv M ∧ om_ok23 Inv M ∧ om_ok24 Inv M ∧ om_ok25 Inv M ∧ om_ok26 Inv M ∧ om_ok27 Inv M ∧ om_ok28 Inv M
def om_LX (D : va_G) (cA : Nat → ClassId) (ad : Nat → Nat) (p : Program) (s : State) (m : MethodId) (meth : Method) (c : Code) (b L : Nat) (xs : Nat → Int32) : Prop := lw_At p s m meth c b L xs ∧ om_K D cA s ∧ om_N2 ad s ∧ om_S ad (fun q => s.heap.size ≤ q) s s.heap
theorem om_hin {x3 : Int32} {j L : Nat} (hx3 : x3 = nI j) (hj : j + 5 ≤ L) (hL : L ≤ 2560) : ∀ k : Int32, 0 < k → k ≤ 4 → vp_in (x3 + k) L := by
  intro k h0 h4
  have h0 := Int32.lt_iff_toInt_lt.mp h0
  have h4 := Int32.le_iff_toInt_le.mp h4
  have e0 : (0 : Int32).toInt = 0 := by decide
  have e4 : (4 : Int32).toInt = 4 := by decide
  obtain ⟨q, hq, rfl⟩ : ∃ q : Nat, q ≤ 4 ∧ k = nI q := by
    refine ⟨k.toInt.toNat, by omega, ?_⟩
    apply Int32.toInt_inj.mp
    rw [nI_toInt (by omega)]
    omega
  rw [hx3, nI_add]
  exact vp_in_nI (by omega) (by omega)
theorem om_hin0 {x3 : Int32} {j L : Nat} (hx3 : x3 = nI j) (hj : j + 5 ≤ L) (hL : L ≤ 2560) : vp_in x3 L := by
  rw [hx3]
  exact vp_in_nI (by omega) (by omega)
theorem om_hj {x3 : Int32} {j L : Nat} (hx3 : x3 = nI j) (hj : j ≤ 2565) (hL : L ≤ 2560) (h : ¬ (Int32.ofNat L - 5 < x3)) : j + 5 ≤ L := by
  rw [Int32.lt_iff_toInt_lt, hx3, nI_toInt (by omega), show Int32.ofNat L - 5 = nI L - nI 5 from rfl, pk_sub_toInt (by omega) (by omega)] at h
  omega
section LAW
variable {p : Program} {l : Launch} {e : Env} {s : State} {m : MethodId} {below : List Frame} {meth : Method} {c : Code} {D : va_G} {cA : Nat → ClassId} {ad : Nat → Nat} {b L : Nat} {xs : Nat → Int32} {Inv : om_M → Prop}
set_option maxHeartbeats 4000000 in
set_option maxRecDepth 100000 in
theorem om_lc0 (X : om_LX D cA ad p s m meth c b L xs) (hL : L ≤ 2560) {M : om_M} (hok : om_ok0 Inv M) {x3 : Int32} {j : Nat} (hx3 : x3 = nI j) (hj : j + 5 ≤ L) {H : Heap} {locs : List Loc} {ls : Array Slot} (hR : om_Rep D cA ad (fun q => s.heap.size ≤ q) s.heap M H locs) (hl : lv_has ls 4 [(0, .ref b), (1, .ref (ad 0)), (2, .ref (ad 46)), (3, .int x3)]) (hback : ∀ (M : om_M) (H : Heap) (locs : List Loc) (ls : Array Slot), Inv M → om_Rep D cA ad (fun q => s.heap.size ≤ q) s.heap M H locs → lv_has ls 4 [(0, .ref b), (1, .ref (ad 0)), (2, .ref (ad 46)), (3, .int x3)] → W p l e room_1 s m #[Value.ref b] below meth c H locs 100 4000 (lw_Z below #[Value.ref b] s) (F0 m 1031 ls [])) : W p l e room_1 s m #[Value.ref b] below meth c H locs 100 4000 (lw_Z below #[Value.ref b] s) (F0 m 164 ls []) := by
  obtain ⟨⟨hx, hb, hr, hml, hown, hts, hX, hbl, hlocks, hgv⟩, hK, hN, hS0⟩ := X
  have htb : ∀ w ∈ om_tb, w.before #[Value.ref b] s = true := fun w hw => hts w (om_tb_in w hw)
  have hown : s.vm.findClass (om_cn 12) = some m.cls := hown
  have hA : ∀ q : Nat, s.heap.size ≤ q → (fun q : Nat => s.heap.size ≤ q) q := fun _ h => h
  have hbA : ¬ (fun q : Nat => s.heap.size ≤ q) b := Nat.not_le.mpr hbl
  have hin : ∀ k : Int32, 0 < k → k ≤ 4 → vp_in (x3 + k) L := om_hin hx3 hj hL
  obtain ⟨rv, M1, M2, hc1, hc2, hI⟩ := hok (xs (x3 + 1).toNatClampNeg) (xs (x3 + 2).toNatClampNeg)
  refine lv_aload_n hx hb dL_164 rfl (lv_at hl 1 rfl) ?_
  refine lv_aload_n hx hb dL_165 rfl (lv_at hl 0 rfl) ?_
  refine lv_iload_n hx hb dL_166 rfl (lv_at hl 3 rfl) ?_
  refine lv_iconst (v := 1) hx hb dL_167 (by decide) ?_
  refine lv_iadd hx hb dL_168 ?_
  refine va_sld hx hb hX hbl hbA hR.2.2 (hin 1 (by decide) (by decide)) dL_169 ?_
  refine lv_aload_n hx hb dL_170 rfl (lv_at hl 0 rfl) ?_
  refine lv_iload_n hx hb dL_171 rfl (lv_at hl 3 rfl) ?_
  refine lv_iconst (v := 2) hx hb dL_172 (by decide) ?_
  refine lv_iadd hx hb dL_173 ?_
  refine va_sld hx hb hX hbl hbA hR.2.2 (hin 2 (by decide) (by decide)) dL_174 ?_
  refine om_callV (ci := 6) (a := 0) (k := 83) (w := 0) (t := [om_i (xs (x3 + 1).toNatClampNeg), om_i (xs (x3 + 2).toNatClampNeg)]) (r := []) (v := some (om_i rv)) hx hb hml hown htb hK hN hS0 hA ⟨Nat.le_of_ble_eq_true rfl, Nat.le_of_ble_eq_true rfl⟩ (d := 60) (Nat.le_of_ble_eq_true rfl) (Nat.le_of_ble_eq_true rfl) (om_met l D cA ad 60) rfl rfl rfl (Or.inl (by decide)) (by decide +kernel) dL_175 rfl rfl rfl (om_C_place_ok om_F 60 (Nat.le_of_ble_eq_true rfl) hc1) hl.1 hR (fun H locs hR => ?_)
  change W p l e room_1 s m #[Value.ref b] below meth c H locs 100 4000 (lw_Z below #[Value.ref b] s) (F0 m 178 ls [.int rv])
  refine lv_aload_n hx hb dL_178 rfl (lv_at hl 2 rfl) ?_
  refine lv_aload_n hx hb dL_179 rfl (lv_at hl 0 rfl) ?_
  refine lv_iload_n hx hb dL_180 rfl (lv_at hl 3 rfl) ?_
  refine lv_iconst (v := 1) hx hb dL_181 (by decide) ?_
  refine lv_iadd hx hb dL_182 ?_
  refine va_sld hx hb hX hbl hbA hR.2.2 (hin 1 (by decide) (by decide)) dL_183 ?_
  refine lv_aload_n hx hb dL_184 rfl (lv_at hl 0 rfl) ?_
  refine lv_iload_n hx hb dL_185 rfl (lv_at hl 3 rfl) ?_
  refine lv_iconst (v := 2) hx hb dL_186 (by decide) ?_
  refine lv_iadd hx hb dL_187 ?_
  refine va_sld hx hb hX hbl hbA hR.2.2 (hin 2 (by decide) (by decide)) dL_188 ?_
  refine om_callV (ci := 7) (a := 46) (k := 124) (w := 93) (t := [om_i (xs (x3 + 1).toNatClampNeg), om_i (xs (x3 + 2).toNatClampNeg)]) (r := [om_i rv]) (v := some (om_i rv)) hx hb hml hown htb hK hN hS0 hA ⟨Nat.le_of_ble_eq_true rfl, Nat.le_of_ble_eq_true rfl⟩ (d := 60) (Nat.le_of_ble_eq_true rfl) (Nat.le_of_ble_eq_true rfl) (om_met l D cA ad 60) rfl rfl rfl (Or.inl (by decide)) (by decide +kernel) dL_189 rfl rfl rfl (om_D_place_ok om_F 60 (Nat.le_of_ble_eq_true rfl) hc2) hl.1 hR (fun H locs hR => ?_)
  change W p l e room_1 s m #[Value.ref b] below meth c H locs 100 4000 (lw_Z below #[Value.ref b] s) (F0 m 192 ls [.int rv, .int rv])
  exact lv_icmp_eq (tgt := 1031) hx hb dL_192 (by decide) (fun _ => hback M2 H locs ls hI hR hl) (fun q => absurd rfl q)
set_option maxHeartbeats 4000000 in
set_option maxRecDepth 100000 in
theorem om_lc1 (X : om_LX D cA ad p s m meth c b L xs) (hL : L ≤ 2560) {M : om_M} (hok : om_ok1 Inv M) {x3 : Int32} {j : Nat} (hx3 : x3 = nI j) (hj : j + 5 ≤ L) {H : Heap} {locs : List Loc} {ls : Array Slot} (hR : om_Rep D cA ad (fun q => s.heap.size ≤ q) s.heap M H locs) (hl : lv_has ls 4 [(0, .ref b), (1, .ref (ad 0)), (2, .ref (ad 46)), (3, .int x3)]) (hback : ∀ (M : om_M) (H : Heap) (locs : List Loc) (ls : Array Slot), Inv M → om_Rep D cA ad (fun q => s.heap.size ≤ q) s.heap M H locs → lv_has ls 4 [(0, .ref b), (1, .ref (ad 0)), (2, .ref (ad 46)), (3, .int x3)] → W p l e room_1 s m #[Value.ref b] below meth c H locs 100 4000 (lw_Z below #[Value.ref b] s) (F0 m 1031 ls [])) : W p l e room_1 s m #[Value.ref b] below meth c H locs 100 4000 (lw_Z below #[Value.ref b] s) (F0 m 197 ls []) := by
  obtain ⟨⟨hx, hb, hr, hml, hown, hts, hX, hbl, hlocks, hgv⟩, hK, hN, hS0⟩ := X
  have htb : ∀ w ∈ om_tb, w.before #[Value.ref b] s = true := fun w hw => hts w (om_tb_in w hw)
  have hown : s.vm.findClass (om_cn 12) = some m.cls := hown
  have hA : ∀ q : Nat, s.heap.size ≤ q → (fun q : Nat => s.heap.size ≤ q) q := fun _ h => h
  have hbA : ¬ (fun q : Nat => s.heap.size ≤ q) b := Nat.not_le.mpr hbl
  have hin : ∀ k : Int32, 0 < k → k ≤ 4 → vp_in (x3 + k) L := om_hin hx3 hj hL
  obtain ⟨rv, M1, M2, hc1, hc2, hI⟩ := hok (xs (x3 + 1).toNatClampNeg) (xs (x3 + 2).toNatClampNeg) (xs (x3 + 3).toNatClampNeg)
  refine lv_aload_n hx hb dL_197 rfl (lv_at hl 1 rfl) ?_
  refine lv_aload_n hx hb dL_198 rfl (lv_at hl 0 rfl) ?_
  refine lv_iload_n hx hb dL_199 rfl (lv_at hl 3 rfl) ?_
  refine lv_iconst (v := 1) hx hb dL_200 (by decide) ?_
  refine lv_iadd hx hb dL_201 ?_
  refine va_sld hx hb hX hbl hbA hR.2.2 (hin 1 (by decide) (by decide)) dL_202 ?_
  refine lv_aload_n hx hb dL_203 rfl (lv_at hl 0 rfl) ?_
  refine lv_iload_n hx hb dL_204 rfl (lv_at hl 3 rfl) ?_
  refine lv_iconst (v := 2) hx hb dL_205 (by decide) ?_
  refine lv_iadd hx hb dL_206 ?_
  refine va_sld hx hb hX hbl hbA hR.2.2 (hin 2 (by decide) (by decide)) dL_207 ?_
  refine lv_aload_n hx hb dL_208 rfl (lv_at hl 0 rfl) ?_
  refine lv_iload_n hx hb dL_209 rfl (lv_at hl 3 rfl) ?_
  refine lv_iconst (v := 3) hx hb dL_210 (by decide) ?_
  refine lv_iadd hx hb dL_211 ?_
  refine va_sld hx hb hX hbl hbA hR.2.2 (hin 3 (by decide) (by decide)) dL_212 ?_
  refine om_callV (ci := 6) (a := 0) (k := 86) (w := 4) (t := [om_i (xs (x3 + 1).toNatClampNeg), om_i (xs (x3 + 2).toNatClampNeg), om_i (xs (x3 + 3).toNatClampNeg)]) (r := []) (v := some (om_i rv)) hx hb hml hown htb hK hN hS0 hA ⟨Nat.le_of_ble_eq_true rfl, Nat.le_of_ble_eq_true rfl⟩ (d := 60) (Nat.le_of_ble_eq_true rfl) (Nat.le_of_ble_eq_true rfl) (om_met l D cA ad 60) rfl rfl rfl (Or.inl (by decide)) (by decide +kernel) dL_213 rfl rfl rfl (om_C_arrow_ok om_F 60 (Nat.le_of_ble_eq_true rfl) hc1) hl.1 hR (fun H locs hR => ?_)
  change W p l e room_1 s m #[Value.ref b] below meth c H locs 100 4000 (lw_Z below #[Value.ref b] s) (F0 m 216 ls [.int rv])
  refine lv_aload_n hx hb dL_216 rfl (lv_at hl 2 rfl) ?_
  refine lv_aload_n hx hb dL_217 rfl (lv_at hl 0 rfl) ?_
  refine lv_iload_n hx hb dL_218 rfl (lv_at hl 3 rfl) ?_
  refine lv_iconst (v := 1) hx hb dL_219 (by decide) ?_
  refine lv_iadd hx hb dL_220 ?_
  refine va_sld hx hb hX hbl hbA hR.2.2 (hin 1 (by decide) (by decide)) dL_221 ?_
  refine lv_aload_n hx hb dL_222 rfl (lv_at hl 0 rfl) ?_
  refine lv_iload_n hx hb dL_223 rfl (lv_at hl 3 rfl) ?_
  refine lv_iconst (v := 2) hx hb dL_224 (by decide) ?_
  refine lv_iadd hx hb dL_225 ?_
  refine va_sld hx hb hX hbl hbA hR.2.2 (hin 2 (by decide) (by decide)) dL_226 ?_
  refine lv_aload_n hx hb dL_227 rfl (lv_at hl 0 rfl) ?_
  refine lv_iload_n hx hb dL_228 rfl (lv_at hl 3 rfl) ?_
  refine lv_iconst (v := 3) hx hb dL_229 (by decide) ?_
  refine lv_iadd hx hb dL_230 ?_
  refine va_sld hx hb hX hbl hbA hR.2.2 (hin 3 (by decide) (by decide)) dL_231 ?_
  refine om_callV (ci := 7) (a := 46) (k := 126) (w := 96) (t := [om_i (xs (x3 + 1).toNatClampNeg), om_i (xs (x3 + 2).toNatClampNeg), om_i (xs (x3 + 3).toNatClampNeg)]) (r := [om_i rv]) (v := some (om_i rv)) hx hb hml hown htb hK hN hS0 hA ⟨Nat.le_of_ble_eq_true rfl, Nat.le_of_ble_eq_true rfl⟩ (d := 60) (Nat.le_of_ble_eq_true rfl) (Nat.le_of_ble_eq_true rfl) (om_met l D cA ad 60) rfl rfl rfl (Or.inl (by decide)) (by decide +kernel) dL_232 rfl rfl rfl (om_D_arrow_ok om_F 60 (Nat.le_of_ble_eq_true rfl) hc2) hl.1 hR (fun H locs hR => ?_)
  change W p l e room_1 s m #[Value.ref b] below meth c H locs 100 4000 (lw_Z below #[Value.ref b] s) (F0 m 235 ls [.int rv, .int rv])
  exact lv_icmp_eq (tgt := 1031) hx hb dL_235 (by decide) (fun _ => hback M2 H locs ls hI hR hl) (fun q => absurd rfl q)
set_option maxHeartbeats 4000000 in
set_option maxRecDepth 100000 in
theorem om_lc2 (X : om_LX D cA ad p s m meth c b L xs) (hL : L ≤ 2560) {M : om_M} (hok : om_ok2 Inv M) {x3 : Int32} {j : Nat} (hx3 : x3 = nI j) (hj : j + 5 ≤ L) {H : Heap} {locs : List Loc} {ls : Array Slot} (hR : om_Rep D cA ad (fun q => s.heap.size ≤ q) s.heap M H locs) (hl : lv_has ls 4 [(0, .ref b), (1, .ref (ad 0)), (2, .ref (ad 46)), (3, .int x3)]) (hback : ∀ (M : om_M) (H : Heap) (locs : List Loc) (ls : Array Slot), Inv M → om_Rep D cA ad (fun q => s.heap.size ≤ q) s.heap M H locs → lv_has ls 4 [(0, .ref b), (1, .ref (ad 0)), (2, .ref (ad 46)), (3, .int x3)] → W p l e room_1 s m #[Value.ref b] below meth c H locs 100 4000 (lw_Z below #[Value.ref b] s) (F0 m 1031 ls [])) : W p l e room_1 s m #[Value.ref b] below meth c H locs 100 4000 (lw_Z below #[Value.ref b] s) (F0 m 240 ls []) := by
  obtain ⟨⟨hx, hb, hr, hml, hown, hts, hX, hbl, hlocks, hgv⟩, hK, hN, hS0⟩ := X
  have htb : ∀ w ∈ om_tb, w.before #[Value.ref b] s = true := fun w hw => hts w (om_tb_in w hw)
  have hown : s.vm.findClass (om_cn 12) = some m.cls := hown
  have hA : ∀ q : Nat, s.heap.size ≤ q → (fun q : Nat => s.heap.size ≤ q) q := fun _ h => h
  have hbA : ¬ (fun q : Nat => s.heap.size ≤ q) b := Nat.not_le.mpr hbl
  have hin : ∀ k : Int32, 0 < k → k ≤ 4 → vp_in (x3 + k) L := om_hin hx3 hj hL
  obtain ⟨rv, M1, M2, hc1, hc2, hI⟩ := hok (xs (x3 + 1).toNatClampNeg)
  refine lv_aload_n hx hb dL_240 rfl (lv_at hl 1 rfl) ?_
  refine lv_aload_n hx hb dL_241 rfl (lv_at hl 0 rfl) ?_
  refine lv_iload_n hx hb dL_242 rfl (lv_at hl 3 rfl) ?_
  refine lv_iconst (v := 1) hx hb dL_243 (by decide) ?_
  refine lv_iadd hx hb dL_244 ?_
  refine va_sld hx hb hX hbl hbA hR.2.2 (hin 1 (by decide) (by decide)) dL_245 ?_
  refine om_callV (ci := 6) (a := 0) (k := 88) (w := 7) (t := [om_i (xs (x3 + 1).toNatClampNeg)]) (r := []) (v := some (om_i rv)) hx hb hml hown htb hK hN hS0 hA ⟨Nat.le_of_ble_eq_true rfl, Nat.le_of_ble_eq_true rfl⟩ (d := 60) (Nat.le_of_ble_eq_true rfl) (Nat.le_of_ble_eq_true rfl) (om_met l D cA ad 60) rfl rfl rfl (Or.inl (by decide)) (by decide +kernel) dL_246 rfl rfl rfl (om_C_cut_ok om_F 60 (Nat.le_of_ble_eq_true rfl) hc1) hl.1 hR (fun H locs hR => ?_)
  change W p l e room_1 s m #[Value.ref b] below meth c H locs 100 4000 (lw_Z below #[Value.ref b] s) (F0 m 249 ls [.int rv])
  refine lv_aload_n hx hb dL_249 rfl (lv_at hl 2 rfl) ?_
  refine lv_aload_n hx hb dL_250 rfl (lv_at hl 0 rfl) ?_
  refine lv_iload_n hx hb dL_251 rfl (lv_at hl 3 rfl) ?_
  refine lv_iconst (v := 1) hx hb dL_252 (by decide) ?_
  refine lv_iadd hx hb dL_253 ?_
  refine va_sld hx hb hX hbl hbA hR.2.2 (hin 1 (by decide) (by decide)) dL_254 ?_
  refine om_callV (ci := 7) (a := 46) (k := 127) (w := 99) (t := [om_i (xs (x3 + 1).toNatClampNeg)]) (r := [om_i rv]) (v := some (om_i rv)) hx hb hml hown htb hK hN hS0 hA ⟨Nat.le_of_ble_eq_true rfl, Nat.le_of_ble_eq_true rfl⟩ (d := 60) (Nat.le_of_ble_eq_true rfl) (Nat.le_of_ble_eq_true rfl) (om_met l D cA ad 60) rfl rfl rfl (Or.inl (by decide)) (by decide +kernel) dL_255 rfl rfl rfl (om_D_cut_ok om_F 60 (Nat.le_of_ble_eq_true rfl) hc2) hl.1 hR (fun H locs hR => ?_)
  change W p l e room_1 s m #[Value.ref b] below meth c H locs 100 4000 (lw_Z below #[Value.ref b] s) (F0 m 258 ls [.int rv, .int rv])
  exact lv_icmp_eq (tgt := 1031) hx hb dL_258 (by decide) (fun _ => hback M2 H locs ls hI hR hl) (fun q => absurd rfl q)
set_option maxHeartbeats 4000000 in
set_option maxRecDepth 100000 in
theorem om_lc3 (X : om_LX D cA ad p s m meth c b L xs) (hL : L ≤ 2560) {M : om_M} (hok : om_ok3 Inv M) {x3 : Int32} {j : Nat} (hx3 : x3 = nI j) (hj : j + 5 ≤ L) {H : Heap} {locs : List Loc} {ls : Array Slot} (hR : om_Rep D cA ad (fun q => s.heap.size ≤ q) s.heap M H locs) (hl : lv_has ls 4 [(0, .ref b), (1, .ref (ad 0)), (2, .ref (ad 46)), (3, .int x3)]) (hback : ∀ (M : om_M) (H : Heap) (locs : List Loc) (ls : Array Slot), Inv M → om_Rep D cA ad (fun q => s.heap.size ≤ q) s.heap M H locs → lv_has ls 4 [(0, .ref b), (1, .ref (ad 0)), (2, .ref (ad 46)), (3, .int x3)] → W p l e room_1 s m #[Value.ref b] below meth c H locs 100 4000 (lw_Z below #[Value.ref b] s) (F0 m 1031 ls [])) : W p l e room_1 s m #[Value.ref b] below meth c H locs 100 4000 (lw_Z below #[Value.ref b] s) (F0 m 263 ls []) := by
  obtain ⟨⟨hx, hb, hr, hml, hown, hts, hX, hbl, hlocks, hgv⟩, hK, hN, hS0⟩ := X
  have htb : ∀ w ∈ om_tb, w.before #[Value.ref b] s = true := fun w hw => hts w (om_tb_in w hw)
  have hown : s.vm.findClass (om_cn 12) = some m.cls := hown
  have hA : ∀ q : Nat, s.heap.size ≤ q → (fun q : Nat => s.heap.size ≤ q) q := fun _ h => h
  have hbA : ¬ (fun q : Nat => s.heap.size ≤ q) b := Nat.not_le.mpr hbl
  have hin : ∀ k : Int32, 0 < k → k ≤ 4 → vp_in (x3 + k) L := om_hin hx3 hj hL
  obtain ⟨rv, M1, M2, hc1, hc2, hI⟩ := hok (xs (x3 + 1).toNatClampNeg) (xs (x3 + 2).toNatClampNeg)
  refine lv_aload_n hx hb dL_263 rfl (lv_at hl 1 rfl) ?_
  refine lv_aload_n hx hb dL_264 rfl (lv_at hl 0 rfl) ?_
  refine lv_iload_n hx hb dL_265 rfl (lv_at hl 3 rfl) ?_
  refine lv_iconst (v := 1) hx hb dL_266 (by decide) ?_
  refine lv_iadd hx hb dL_267 ?_
  refine va_sld hx hb hX hbl hbA hR.2.2 (hin 1 (by decide) (by decide)) dL_268 ?_
  refine lv_aload_n hx hb dL_269 rfl (lv_at hl 0 rfl) ?_
  refine lv_iload_n hx hb dL_270 rfl (lv_at hl 3 rfl) ?_
  refine lv_iconst (v := 2) hx hb dL_271 (by decide) ?_
  refine lv_iadd hx hb dL_272 ?_
  refine va_sld hx hb hX hbl hbA hR.2.2 (hin 2 (by decide) (by decide)) dL_273 ?_
  refine om_callV (ci := 6) (a := 0) (k := 89) (w := 9) (t := [om_i (xs (x3 + 1).toNatClampNeg), om_i (xs (x3 + 2).toNatClampNeg)]) (r := []) (v := some (om_i rv)) hx hb hml hown htb hK hN hS0 hA ⟨Nat.le_of_ble_eq_true rfl, Nat.le_of_ble_eq_true rfl⟩ (d := 60) (Nat.le_of_ble_eq_true rfl) (Nat.le_of_ble_eq_true rfl) (om_met l D cA ad 60) rfl rfl rfl (Or.inl (by decide)) (by decide +kernel) dL_274 rfl rfl rfl (om_C_give_ok om_F 60 (Nat.le_of_ble_eq_true rfl) hc1) hl.1 hR (fun H locs hR => ?_)
  change W p l e room_1 s m #[Value.ref b] below meth c H locs 100 4000 (lw_Z below #[Value.ref b] s) (F0 m 277 ls [.int rv])
  refine lv_aload_n hx hb dL_277 rfl (lv_at hl 2 rfl) ?_
  refine lv_aload_n hx hb dL_278 rfl (lv_at hl 0 rfl) ?_
  refine lv_iload_n hx hb dL_279 rfl (lv_at hl 3 rfl) ?_
  refine lv_iconst (v := 1) hx hb dL_280 (by decide) ?_
  refine lv_iadd hx hb dL_281 ?_
  refine va_sld hx hb hX hbl hbA hR.2.2 (hin 1 (by decide) (by decide)) dL_282 ?_
  refine lv_aload_n hx hb dL_283 rfl (lv_at hl 0 rfl) ?_
  refine lv_iload_n hx hb dL_284 rfl (lv_at hl 3 rfl) ?_
  refine lv_iconst (v := 2) hx hb dL_285 (by decide) ?_
  refine lv_iadd hx hb dL_286 ?_
  refine va_sld hx hb hX hbl hbA hR.2.2 (hin 2 (by decide) (by decide)) dL_287 ?_
  refine om_callV (ci := 7) (a := 46) (k := 128) (w := 101) (t := [om_i (xs (x3 + 1).toNatClampNeg), om_i (xs (x3 + 2).toNatClampNeg)]) (r := [om_i rv]) (v := some (om_i rv)) hx hb hml hown htb hK hN hS0 hA ⟨Nat.le_of_ble_eq_true rfl, Nat.le_of_ble_eq_true rfl⟩ (d := 60) (Nat.le_of_ble_eq_true rfl) (Nat.le_of_ble_eq_true rfl) (om_met l D cA ad 60) rfl rfl rfl (Or.inl (by decide)) (by decide +kernel) dL_288 rfl rfl rfl (om_D_give_ok om_F 60 (Nat.le_of_ble_eq_true rfl) hc2) hl.1 hR (fun H locs hR => ?_)
  change W p l e room_1 s m #[Value.ref b] below meth c H locs 100 4000 (lw_Z below #[Value.ref b] s) (F0 m 291 ls [.int rv, .int rv])
  exact lv_icmp_eq (tgt := 1031) hx hb dL_291 (by decide) (fun _ => hback M2 H locs ls hI hR hl) (fun q => absurd rfl q)
set_option maxHeartbeats 4000000 in
set_option maxRecDepth 100000 in
theorem om_lc4 (X : om_LX D cA ad p s m meth c b L xs) (hL : L ≤ 2560) {M : om_M} (hok : om_ok4 Inv M) {x3 : Int32} {j : Nat} (hx3 : x3 = nI j) (hj : j + 5 ≤ L) {H : Heap} {locs : List Loc} {ls : Array Slot} (hR : om_Rep D cA ad (fun q => s.heap.size ≤ q) s.heap M H locs) (hl : lv_has ls 4 [(0, .ref b), (1, .ref (ad 0)), (2, .ref (ad 46)), (3, .int x3)]) (hback : ∀ (M : om_M) (H : Heap) (locs : List Loc) (ls : Array Slot), Inv M → om_Rep D cA ad (fun q => s.heap.size ≤ q) s.heap M H locs → lv_has ls 4 [(0, .ref b), (1, .ref (ad 0)), (2, .ref (ad 46)), (3, .int x3)] → W p l e room_1 s m #[Value.ref b] below meth c H locs 100 4000 (lw_Z below #[Value.ref b] s) (F0 m 1031 ls [])) : W p l e room_1 s m #[Value.ref b] below meth c H locs 100 4000 (lw_Z below #[Value.ref b] s) (F0 m 296 ls []) := by
  obtain ⟨⟨hx, hb, hr, hml, hown, hts, hX, hbl, hlocks, hgv⟩, hK, hN, hS0⟩ := X
  have htb : ∀ w ∈ om_tb, w.before #[Value.ref b] s = true := fun w hw => hts w (om_tb_in w hw)
  have hown : s.vm.findClass (om_cn 12) = some m.cls := hown
  have hA : ∀ q : Nat, s.heap.size ≤ q → (fun q : Nat => s.heap.size ≤ q) q := fun _ h => h
  have hbA : ¬ (fun q : Nat => s.heap.size ≤ q) b := Nat.not_le.mpr hbl
  have hin : ∀ k : Int32, 0 < k → k ≤ 4 → vp_in (x3 + k) L := om_hin hx3 hj hL
  obtain ⟨rv, M1, M2, hc1, hc2, hI⟩ := hok (xs (x3 + 1).toNatClampNeg) (xs (x3 + 2).toNatClampNeg) (xs (x3 + 3).toNatClampNeg)
  refine lv_aload_n hx hb dL_296 rfl (lv_at hl 1 rfl) ?_
  refine lv_aload_n hx hb dL_297 rfl (lv_at hl 0 rfl) ?_
  refine lv_iload_n hx hb dL_298 rfl (lv_at hl 3 rfl) ?_
  refine lv_iconst (v := 1) hx hb dL_299 (by decide) ?_
  refine lv_iadd hx hb dL_300 ?_
  refine va_sld hx hb hX hbl hbA hR.2.2 (hin 1 (by decide) (by decide)) dL_301 ?_
  refine lv_aload_n hx hb dL_302 rfl (lv_at hl 0 rfl) ?_
  refine lv_iload_n hx hb dL_303 rfl (lv_at hl 3 rfl) ?_
  refine lv_iconst (v := 2) hx hb dL_304 (by decide) ?_
  refine lv_iadd hx hb dL_305 ?_
  refine va_sld hx hb hX hbl hbA hR.2.2 (hin 2 (by decide) (by decide)) dL_306 ?_
  refine lv_aload_n hx hb dL_307 rfl (lv_at hl 0 rfl) ?_
  refine lv_iload_n hx hb dL_308 rfl (lv_at hl 3 rfl) ?_
  refine lv_iconst (v := 3) hx hb dL_309 (by decide) ?_
  refine lv_iadd hx hb dL_310 ?_
  refine va_sld hx hb hX hbl hbA hR.2.2 (hin 3 (by decide) (by decide)) dL_311 ?_
  refine om_callV (ci := 6) (a := 0) (k := 90) (w := 10) (t := [om_i (xs (x3 + 1).toNatClampNeg), om_i (xs (x3 + 2).toNatClampNeg), om_i (xs (x3 + 3).toNatClampNeg)]) (r := []) (v := some (om_i rv)) hx hb hml hown htb hK hN hS0 hA ⟨Nat.le_of_ble_eq_true rfl, Nat.le_of_ble_eq_true rfl⟩ (d := 60) (Nat.le_of_ble_eq_true rfl) (Nat.le_of_ble_eq_true rfl) (om_met l D cA ad 60) rfl rfl rfl (Or.inl (by decide)) (by decide +kernel) dL_312 rfl rfl rfl (om_C_set_ok om_F 60 (Nat.le_of_ble_eq_true rfl) hc1) hl.1 hR (fun H locs hR => ?_)
  change W p l e room_1 s m #[Value.ref b] below meth c H locs 100 4000 (lw_Z below #[Value.ref b] s) (F0 m 315 ls [.int rv])
  refine lv_aload_n hx hb dL_315 rfl (lv_at hl 2 rfl) ?_
  refine lv_aload_n hx hb dL_316 rfl (lv_at hl 0 rfl) ?_
  refine lv_iload_n hx hb dL_317 rfl (lv_at hl 3 rfl) ?_
  refine lv_iconst (v := 1) hx hb dL_318 (by decide) ?_
  refine lv_iadd hx hb dL_319 ?_
  refine va_sld hx hb hX hbl hbA hR.2.2 (hin 1 (by decide) (by decide)) dL_320 ?_
  refine lv_aload_n hx hb dL_321 rfl (lv_at hl 0 rfl) ?_
  refine lv_iload_n hx hb dL_322 rfl (lv_at hl 3 rfl) ?_
  refine lv_iconst (v := 2) hx hb dL_323 (by decide) ?_
  refine lv_iadd hx hb dL_324 ?_
  refine va_sld hx hb hX hbl hbA hR.2.2 (hin 2 (by decide) (by decide)) dL_325 ?_
  refine lv_aload_n hx hb dL_326 rfl (lv_at hl 0 rfl) ?_
  refine lv_iload_n hx hb dL_327 rfl (lv_at hl 3 rfl) ?_
  refine lv_iconst (v := 3) hx hb dL_328 (by decide) ?_
  refine lv_iadd hx hb dL_329 ?_
  refine va_sld hx hb hX hbl hbA hR.2.2 (hin 3 (by decide) (by decide)) dL_330 ?_
  refine om_callV (ci := 7) (a := 46) (k := 129) (w := 102) (t := [om_i (xs (x3 + 1).toNatClampNeg), om_i (xs (x3 + 2).toNatClampNeg), om_i (xs (x3 + 3).toNatClampNeg)]) (r := [om_i rv]) (v := some (om_i rv)) hx hb hml hown htb hK hN hS0 hA ⟨Nat.le_of_ble_eq_true rfl, Nat.le_of_ble_eq_true rfl⟩ (d := 60) (Nat.le_of_ble_eq_true rfl) (Nat.le_of_ble_eq_true rfl) (om_met l D cA ad 60) rfl rfl rfl (Or.inl (by decide)) (by decide +kernel) dL_331 rfl rfl rfl (om_D_set_ok om_F 60 (Nat.le_of_ble_eq_true rfl) hc2) hl.1 hR (fun H locs hR => ?_)
  change W p l e room_1 s m #[Value.ref b] below meth c H locs 100 4000 (lw_Z below #[Value.ref b] s) (F0 m 334 ls [.int rv, .int rv])
  exact lv_icmp_eq (tgt := 1031) hx hb dL_334 (by decide) (fun _ => hback M2 H locs ls hI hR hl) (fun q => absurd rfl q)
set_option maxHeartbeats 4000000 in
set_option maxRecDepth 100000 in
theorem om_lc5 (X : om_LX D cA ad p s m meth c b L xs) (hL : L ≤ 2560) {M : om_M} (hok : om_ok5 Inv M) {x3 : Int32} {j : Nat} (hx3 : x3 = nI j) (hj : j + 5 ≤ L) {H : Heap} {locs : List Loc} {ls : Array Slot} (hR : om_Rep D cA ad (fun q => s.heap.size ≤ q) s.heap M H locs) (hl : lv_has ls 4 [(0, .ref b), (1, .ref (ad 0)), (2, .ref (ad 46)), (3, .int x3)]) (hback : ∀ (M : om_M) (H : Heap) (locs : List Loc) (ls : Array Slot), Inv M → om_Rep D cA ad (fun q => s.heap.size ≤ q) s.heap M H locs → lv_has ls 4 [(0, .ref b), (1, .ref (ad 0)), (2, .ref (ad 46)), (3, .int x3)] → W p l e room_1 s m #[Value.ref b] below meth c H locs 100 4000 (lw_Z below #[Value.ref b] s) (F0 m 1031 ls [])) : W p l e room_1 s m #[Value.ref b] below meth c H locs 100 4000 (lw_Z below #[Value.ref b] s) (F0 m 339 ls []) := by
  obtain ⟨⟨hx, hb, hr, hml, hown, hts, hX, hbl, hlocks, hgv⟩, hK, hN, hS0⟩ := X
  have htb : ∀ w ∈ om_tb, w.before #[Value.ref b] s = true := fun w hw => hts w (om_tb_in w hw)
  have hown : s.vm.findClass (om_cn 12) = some m.cls := hown
  have hA : ∀ q : Nat, s.heap.size ≤ q → (fun q : Nat => s.heap.size ≤ q) q := fun _ h => h
  have hbA : ¬ (fun q : Nat => s.heap.size ≤ q) b := Nat.not_le.mpr hbl
  have hin : ∀ k : Int32, 0 < k → k ≤ 4 → vp_in (x3 + k) L := om_hin hx3 hj hL
  obtain ⟨rv, M1, M2, hc1, hc2, hI⟩ := hok (xs (x3 + 1).toNatClampNeg) (xs (x3 + 2).toNatClampNeg)
  refine lv_aload_n hx hb dL_339 rfl (lv_at hl 1 rfl) ?_
  refine lv_aload_n hx hb dL_340 rfl (lv_at hl 0 rfl) ?_
  refine lv_iload_n hx hb dL_341 rfl (lv_at hl 3 rfl) ?_
  refine lv_iconst (v := 1) hx hb dL_342 (by decide) ?_
  refine lv_iadd hx hb dL_343 ?_
  refine va_sld hx hb hX hbl hbA hR.2.2 (hin 1 (by decide) (by decide)) dL_344 ?_
  refine lv_aload_n hx hb dL_345 rfl (lv_at hl 0 rfl) ?_
  refine lv_iload_n hx hb dL_346 rfl (lv_at hl 3 rfl) ?_
  refine lv_iconst (v := 2) hx hb dL_347 (by decide) ?_
  refine lv_iadd hx hb dL_348 ?_
  refine va_sld hx hb hX hbl hbA hR.2.2 (hin 2 (by decide) (by decide)) dL_349 ?_
  refine om_callV (ci := 6) (a := 0) (k := 91) (w := 11) (t := [om_i (xs (x3 + 1).toNatClampNeg), om_i (xs (x3 + 2).toNatClampNeg)]) (r := []) (v := some (om_i rv)) hx hb hml hown htb hK hN hS0 hA ⟨Nat.le_of_ble_eq_true rfl, Nat.le_of_ble_eq_true rfl⟩ (d := 60) (Nat.le_of_ble_eq_true rfl) (Nat.le_of_ble_eq_true rfl) (om_met l D cA ad 60) rfl rfl rfl (Or.inl (by decide)) (by decide +kernel) dL_350 rfl rfl rfl (om_C_from_ok om_F 60 (Nat.le_of_ble_eq_true rfl) hc1) hl.1 hR (fun H locs hR => ?_)
  change W p l e room_1 s m #[Value.ref b] below meth c H locs 100 4000 (lw_Z below #[Value.ref b] s) (F0 m 353 ls [.int rv])
  refine lv_aload_n hx hb dL_353 rfl (lv_at hl 2 rfl) ?_
  refine lv_aload_n hx hb dL_354 rfl (lv_at hl 0 rfl) ?_
  refine lv_iload_n hx hb dL_355 rfl (lv_at hl 3 rfl) ?_
  refine lv_iconst (v := 1) hx hb dL_356 (by decide) ?_
  refine lv_iadd hx hb dL_357 ?_
  refine va_sld hx hb hX hbl hbA hR.2.2 (hin 1 (by decide) (by decide)) dL_358 ?_
  refine lv_aload_n hx hb dL_359 rfl (lv_at hl 0 rfl) ?_
  refine lv_iload_n hx hb dL_360 rfl (lv_at hl 3 rfl) ?_
  refine lv_iconst (v := 2) hx hb dL_361 (by decide) ?_
  refine lv_iadd hx hb dL_362 ?_
  refine va_sld hx hb hX hbl hbA hR.2.2 (hin 2 (by decide) (by decide)) dL_363 ?_
  refine om_callV (ci := 7) (a := 46) (k := 130) (w := 103) (t := [om_i (xs (x3 + 1).toNatClampNeg), om_i (xs (x3 + 2).toNatClampNeg)]) (r := [om_i rv]) (v := some (om_i rv)) hx hb hml hown htb hK hN hS0 hA ⟨Nat.le_of_ble_eq_true rfl, Nat.le_of_ble_eq_true rfl⟩ (d := 60) (Nat.le_of_ble_eq_true rfl) (Nat.le_of_ble_eq_true rfl) (om_met l D cA ad 60) rfl rfl rfl (Or.inl (by decide)) (by decide +kernel) dL_364 rfl rfl rfl (om_D_from_ok om_F 60 (Nat.le_of_ble_eq_true rfl) hc2) hl.1 hR (fun H locs hR => ?_)
  change W p l e room_1 s m #[Value.ref b] below meth c H locs 100 4000 (lw_Z below #[Value.ref b] s) (F0 m 367 ls [.int rv, .int rv])
  exact lv_icmp_eq (tgt := 1031) hx hb dL_367 (by decide) (fun _ => hback M2 H locs ls hI hR hl) (fun q => absurd rfl q)
set_option maxHeartbeats 4000000 in
set_option maxRecDepth 100000 in
theorem om_lc6 (X : om_LX D cA ad p s m meth c b L xs) (hL : L ≤ 2560) {M : om_M} (hok : om_ok6 Inv M) {x3 : Int32} {j : Nat} (hx3 : x3 = nI j) (hj : j + 5 ≤ L) {H : Heap} {locs : List Loc} {ls : Array Slot} (hR : om_Rep D cA ad (fun q => s.heap.size ≤ q) s.heap M H locs) (hl : lv_has ls 4 [(0, .ref b), (1, .ref (ad 0)), (2, .ref (ad 46)), (3, .int x3)]) (hback : ∀ (M : om_M) (H : Heap) (locs : List Loc) (ls : Array Slot), Inv M → om_Rep D cA ad (fun q => s.heap.size ≤ q) s.heap M H locs → lv_has ls 4 [(0, .ref b), (1, .ref (ad 0)), (2, .ref (ad 46)), (3, .int x3)] → W p l e room_1 s m #[Value.ref b] below meth c H locs 100 4000 (lw_Z below #[Value.ref b] s) (F0 m 1031 ls [])) : W p l e room_1 s m #[Value.ref b] below meth c H locs 100 4000 (lw_Z below #[Value.ref b] s) (F0 m 372 ls []) := by
  obtain ⟨⟨hx, hb, hr, hml, hown, hts, hX, hbl, hlocks, hgv⟩, hK, hN, hS0⟩ := X
  have htb : ∀ w ∈ om_tb, w.before #[Value.ref b] s = true := fun w hw => hts w (om_tb_in w hw)
  have hown : s.vm.findClass (om_cn 12) = some m.cls := hown
  have hA : ∀ q : Nat, s.heap.size ≤ q → (fun q : Nat => s.heap.size ≤ q) q := fun _ h => h
  have hbA : ¬ (fun q : Nat => s.heap.size ≤ q) b := Nat.not_le.mpr hbl
  have hin : ∀ k : Int32, 0 < k → k ≤ 4 → vp_in (x3 + k) L := om_hin hx3 hj hL
  obtain ⟨rv, M1, M2, hc1, hc2, hI⟩ := hok (xs (x3 + 1).toNatClampNeg) (xs (x3 + 2).toNatClampNeg)
  refine lv_aload_n hx hb dL_372 rfl (lv_at hl 1 rfl) ?_
  refine lv_aload_n hx hb dL_373 rfl (lv_at hl 0 rfl) ?_
  refine lv_iload_n hx hb dL_374 rfl (lv_at hl 3 rfl) ?_
  refine lv_iconst (v := 1) hx hb dL_375 (by decide) ?_
  refine lv_iadd hx hb dL_376 ?_
  refine va_sld hx hb hX hbl hbA hR.2.2 (hin 1 (by decide) (by decide)) dL_377 ?_
  refine lv_aload_n hx hb dL_378 rfl (lv_at hl 0 rfl) ?_
  refine lv_iload_n hx hb dL_379 rfl (lv_at hl 3 rfl) ?_
  refine lv_iconst (v := 2) hx hb dL_380 (by decide) ?_
  refine lv_iadd hx hb dL_381 ?_
  refine va_sld hx hb hX hbl hbA hR.2.2 (hin 2 (by decide) (by decide)) dL_382 ?_
  refine om_callV (ci := 6) (a := 0) (k := 93) (w := 12) (t := [om_i (xs (x3 + 1).toNatClampNeg), om_i (xs (x3 + 2).toNatClampNeg)]) (r := []) (v := some (om_i rv)) hx hb hml hown htb hK hN hS0 hA ⟨Nat.le_of_ble_eq_true rfl, Nat.le_of_ble_eq_true rfl⟩ (d := 60) (Nat.le_of_ble_eq_true rfl) (Nat.le_of_ble_eq_true rfl) (om_met l D cA ad 60) rfl rfl rfl (Or.inl (by decide)) (by decide +kernel) dL_383 rfl rfl rfl (om_C_forced_ok om_F 60 (Nat.le_of_ble_eq_true rfl) hc1) hl.1 hR (fun H locs hR => ?_)
  change W p l e room_1 s m #[Value.ref b] below meth c H locs 100 4000 (lw_Z below #[Value.ref b] s) (F0 m 386 ls [.int rv])
  refine lv_aload_n hx hb dL_386 rfl (lv_at hl 2 rfl) ?_
  refine lv_aload_n hx hb dL_387 rfl (lv_at hl 0 rfl) ?_
  refine lv_iload_n hx hb dL_388 rfl (lv_at hl 3 rfl) ?_
  refine lv_iconst (v := 1) hx hb dL_389 (by decide) ?_
  refine lv_iadd hx hb dL_390 ?_
  refine va_sld hx hb hX hbl hbA hR.2.2 (hin 1 (by decide) (by decide)) dL_391 ?_
  refine lv_aload_n hx hb dL_392 rfl (lv_at hl 0 rfl) ?_
  refine lv_iload_n hx hb dL_393 rfl (lv_at hl 3 rfl) ?_
  refine lv_iconst (v := 2) hx hb dL_394 (by decide) ?_
  refine lv_iadd hx hb dL_395 ?_
  refine va_sld hx hb hX hbl hbA hR.2.2 (hin 2 (by decide) (by decide)) dL_396 ?_
  refine om_callV (ci := 7) (a := 46) (k := 136) (w := 104) (t := [om_i (xs (x3 + 1).toNatClampNeg), om_i (xs (x3 + 2).toNatClampNeg)]) (r := [om_i rv]) (v := some (om_i rv)) hx hb hml hown htb hK hN hS0 hA ⟨Nat.le_of_ble_eq_true rfl, Nat.le_of_ble_eq_true rfl⟩ (d := 60) (Nat.le_of_ble_eq_true rfl) (Nat.le_of_ble_eq_true rfl) (om_met l D cA ad 60) rfl rfl rfl (Or.inl (by decide)) (by decide +kernel) dL_397 rfl rfl rfl (om_D_forced_ok om_F 60 (Nat.le_of_ble_eq_true rfl) hc2) hl.1 hR (fun H locs hR => ?_)
  change W p l e room_1 s m #[Value.ref b] below meth c H locs 100 4000 (lw_Z below #[Value.ref b] s) (F0 m 400 ls [.int rv, .int rv])
  exact lv_icmp_eq (tgt := 1031) hx hb dL_400 (by decide) (fun _ => hback M2 H locs ls hI hR hl) (fun q => absurd rfl q)
set_option maxHeartbeats 4000000 in
set_option maxRecDepth 100000 in
theorem om_lc7 (X : om_LX D cA ad p s m meth c b L xs) (hL : L ≤ 2560) {M : om_M} (hok : om_ok7 Inv M) {x3 : Int32} {j : Nat} (hx3 : x3 = nI j) (hj : j + 5 ≤ L) {H : Heap} {locs : List Loc} {ls : Array Slot} (hR : om_Rep D cA ad (fun q => s.heap.size ≤ q) s.heap M H locs) (hl : lv_has ls 4 [(0, .ref b), (1, .ref (ad 0)), (2, .ref (ad 46)), (3, .int x3)]) (hback : ∀ (M : om_M) (H : Heap) (locs : List Loc) (ls : Array Slot), Inv M → om_Rep D cA ad (fun q => s.heap.size ≤ q) s.heap M H locs → lv_has ls 4 [(0, .ref b), (1, .ref (ad 0)), (2, .ref (ad 46)), (3, .int x3)] → W p l e room_1 s m #[Value.ref b] below meth c H locs 100 4000 (lw_Z below #[Value.ref b] s) (F0 m 1031 ls [])) : W p l e room_1 s m #[Value.ref b] below meth c H locs 100 4000 (lw_Z below #[Value.ref b] s) (F0 m 405 ls []) := by
  obtain ⟨⟨hx, hb, hr, hml, hown, hts, hX, hbl, hlocks, hgv⟩, hK, hN, hS0⟩ := X
  have htb : ∀ w ∈ om_tb, w.before #[Value.ref b] s = true := fun w hw => hts w (om_tb_in w hw)
  have hown : s.vm.findClass (om_cn 12) = some m.cls := hown
  have hA : ∀ q : Nat, s.heap.size ≤ q → (fun q : Nat => s.heap.size ≤ q) q := fun _ h => h
  have hbA : ¬ (fun q : Nat => s.heap.size ≤ q) b := Nat.not_le.mpr hbl
  have hin : ∀ k : Int32, 0 < k → k ≤ 4 → vp_in (x3 + k) L := om_hin hx3 hj hL
  obtain ⟨rv, M1, M2, hc1, hc2, hI⟩ := hok (xs (x3 + 1).toNatClampNeg) (xs (x3 + 2).toNatClampNeg) (xs (x3 + 3).toNatClampNeg)
  refine lv_aload_n hx hb dL_405 rfl (lv_at hl 1 rfl) ?_
  refine lv_aload_n hx hb dL_406 rfl (lv_at hl 0 rfl) ?_
  refine lv_iload_n hx hb dL_407 rfl (lv_at hl 3 rfl) ?_
  refine lv_iconst (v := 1) hx hb dL_408 (by decide) ?_
  refine lv_iadd hx hb dL_409 ?_
  refine va_sld hx hb hX hbl hbA hR.2.2 (hin 1 (by decide) (by decide)) dL_410 ?_
  refine lv_aload_n hx hb dL_411 rfl (lv_at hl 0 rfl) ?_
  refine lv_iload_n hx hb dL_412 rfl (lv_at hl 3 rfl) ?_
  refine lv_iconst (v := 2) hx hb dL_413 (by decide) ?_
  refine lv_iadd hx hb dL_414 ?_
  refine va_sld hx hb hX hbl hbA hR.2.2 (hin 2 (by decide) (by decide)) dL_415 ?_
  refine lv_aload_n hx hb dL_416 rfl (lv_at hl 0 rfl) ?_
  refine lv_iload_n hx hb dL_417 rfl (lv_at hl 3 rfl) ?_
  refine lv_iconst (v := 3) hx hb dL_418 (by decide) ?_
  refine lv_iadd hx hb dL_419 ?_
  refine va_sld hx hb hX hbl hbA hR.2.2 (hin 3 (by decide) (by decide)) dL_420 ?_
  refine om_callV (ci := 6) (a := 0) (k := 94) (w := 18) (t := [om_i (xs (x3 + 1).toNatClampNeg), om_i (xs (x3 + 2).toNatClampNeg), om_i (xs (x3 + 3).toNatClampNeg)]) (r := []) (v := some (om_i rv)) hx hb hml hown htb hK hN hS0 hA ⟨Nat.le_of_ble_eq_true rfl, Nat.le_of_ble_eq_true rfl⟩ (d := 60) (Nat.le_of_ble_eq_true rfl) (Nat.le_of_ble_eq_true rfl) (om_met l D cA ad 60) rfl rfl rfl (Or.inl (by decide)) (by decide +kernel) dL_421 rfl rfl rfl (om_C_steps_ok om_F 60 (Nat.le_of_ble_eq_true rfl) hc1) hl.1 hR (fun H locs hR => ?_)
  change W p l e room_1 s m #[Value.ref b] below meth c H locs 100 4000 (lw_Z below #[Value.ref b] s) (F0 m 424 ls [.int rv])
  refine lv_aload_n hx hb dL_424 rfl (lv_at hl 2 rfl) ?_
  refine lv_aload_n hx hb dL_425 rfl (lv_at hl 0 rfl) ?_
  refine lv_iload_n hx hb dL_426 rfl (lv_at hl 3 rfl) ?_
  refine lv_iconst (v := 1) hx hb dL_427 (by decide) ?_
  refine lv_iadd hx hb dL_428 ?_
  refine va_sld hx hb hX hbl hbA hR.2.2 (hin 1 (by decide) (by decide)) dL_429 ?_
  refine lv_aload_n hx hb dL_430 rfl (lv_at hl 0 rfl) ?_
  refine lv_iload_n hx hb dL_431 rfl (lv_at hl 3 rfl) ?_
  refine lv_iconst (v := 2) hx hb dL_432 (by decide) ?_
  refine lv_iadd hx hb dL_433 ?_
  refine va_sld hx hb hX hbl hbA hR.2.2 (hin 2 (by decide) (by decide)) dL_434 ?_
  refine lv_aload_n hx hb dL_435 rfl (lv_at hl 0 rfl) ?_
  refine lv_iload_n hx hb dL_436 rfl (lv_at hl 3 rfl) ?_
  refine lv_iconst (v := 3) hx hb dL_437 (by decide) ?_
  refine lv_iadd hx hb dL_438 ?_
  refine va_sld hx hb hX hbl hbA hR.2.2 (hin 3 (by decide) (by decide)) dL_439 ?_
  refine om_callV (ci := 7) (a := 46) (k := 137) (w := 110) (t := [om_i (xs (x3 + 1).toNatClampNeg), om_i (xs (x3 + 2).toNatClampNeg), om_i (xs (x3 + 3).toNatClampNeg)]) (r := [om_i rv]) (v := some (om_i rv)) hx hb hml hown htb hK hN hS0 hA ⟨Nat.le_of_ble_eq_true rfl, Nat.le_of_ble_eq_true rfl⟩ (d := 60) (Nat.le_of_ble_eq_true rfl) (Nat.le_of_ble_eq_true rfl) (om_met l D cA ad 60) rfl rfl rfl (Or.inl (by decide)) (by decide +kernel) dL_440 rfl rfl rfl (om_D_steps_ok om_F 60 (Nat.le_of_ble_eq_true rfl) hc2) hl.1 hR (fun H locs hR => ?_)
  change W p l e room_1 s m #[Value.ref b] below meth c H locs 100 4000 (lw_Z below #[Value.ref b] s) (F0 m 443 ls [.int rv, .int rv])
  exact lv_icmp_eq (tgt := 1031) hx hb dL_443 (by decide) (fun _ => hback M2 H locs ls hI hR hl) (fun q => absurd rfl q)
set_option maxHeartbeats 4000000 in
set_option maxRecDepth 100000 in
theorem om_lc8 (X : om_LX D cA ad p s m meth c b L xs) (hL : L ≤ 2560) {M : om_M} (hok : om_ok8 Inv M) {x3 : Int32} {j : Nat} (hx3 : x3 = nI j) (hj : j + 5 ≤ L) {H : Heap} {locs : List Loc} {ls : Array Slot} (hR : om_Rep D cA ad (fun q => s.heap.size ≤ q) s.heap M H locs) (hl : lv_has ls 4 [(0, .ref b), (1, .ref (ad 0)), (2, .ref (ad 46)), (3, .int x3)]) (hback : ∀ (M : om_M) (H : Heap) (locs : List Loc) (ls : Array Slot), Inv M → om_Rep D cA ad (fun q => s.heap.size ≤ q) s.heap M H locs → lv_has ls 4 [(0, .ref b), (1, .ref (ad 0)), (2, .ref (ad 46)), (3, .int x3)] → W p l e room_1 s m #[Value.ref b] below meth c H locs 100 4000 (lw_Z below #[Value.ref b] s) (F0 m 1031 ls [])) : W p l e room_1 s m #[Value.ref b] below meth c H locs 100 4000 (lw_Z below #[Value.ref b] s) (F0 m 448 ls []) := by
  obtain ⟨⟨hx, hb, hr, hml, hown, hts, hX, hbl, hlocks, hgv⟩, hK, hN, hS0⟩ := X
  have htb : ∀ w ∈ om_tb, w.before #[Value.ref b] s = true := fun w hw => hts w (om_tb_in w hw)
  have hown : s.vm.findClass (om_cn 12) = some m.cls := hown
  have hA : ∀ q : Nat, s.heap.size ≤ q → (fun q : Nat => s.heap.size ≤ q) q := fun _ h => h
  have hbA : ¬ (fun q : Nat => s.heap.size ≤ q) b := Nat.not_le.mpr hbl
  have hin : ∀ k : Int32, 0 < k → k ≤ 4 → vp_in (x3 + k) L := om_hin hx3 hj hL
  obtain ⟨rv, M1, M2, hc1, hc2, hI⟩ := hok (xs (x3 + 1).toNatClampNeg) (xs (x3 + 2).toNatClampNeg)
  refine lv_aload_n hx hb dL_448 rfl (lv_at hl 1 rfl) ?_
  refine lv_aload_n hx hb dL_449 rfl (lv_at hl 0 rfl) ?_
  refine lv_iload_n hx hb dL_450 rfl (lv_at hl 3 rfl) ?_
  refine lv_iconst (v := 1) hx hb dL_451 (by decide) ?_
  refine lv_iadd hx hb dL_452 ?_
  refine va_sld hx hb hX hbl hbA hR.2.2 (hin 1 (by decide) (by decide)) dL_453 ?_
  refine lv_aload_n hx hb dL_454 rfl (lv_at hl 0 rfl) ?_
  refine lv_iload_n hx hb dL_455 rfl (lv_at hl 3 rfl) ?_
  refine lv_iconst (v := 2) hx hb dL_456 (by decide) ?_
  refine lv_iadd hx hb dL_457 ?_
  refine va_sld hx hb hX hbl hbA hR.2.2 (hin 2 (by decide) (by decide)) dL_458 ?_
  refine om_callV (ci := 6) (a := 0) (k := 95) (w := 20) (t := [om_i (xs (x3 + 1).toNatClampNeg), om_i (xs (x3 + 2).toNatClampNeg)]) (r := []) (v := some (om_i rv)) hx hb hml hown htb hK hN hS0 hA ⟨Nat.le_of_ble_eq_true rfl, Nat.le_of_ble_eq_true rfl⟩ (d := 60) (Nat.le_of_ble_eq_true rfl) (Nat.le_of_ble_eq_true rfl) (om_met l D cA ad 60) rfl rfl rfl (Or.inl (by decide)) (by decide +kernel) dL_459 rfl rfl rfl (om_C_kept_ok om_F 60 (Nat.le_of_ble_eq_true rfl) hc1) hl.1 hR (fun H locs hR => ?_)
  change W p l e room_1 s m #[Value.ref b] below meth c H locs 100 4000 (lw_Z below #[Value.ref b] s) (F0 m 462 ls [.int rv])
  refine lv_aload_n hx hb dL_462 rfl (lv_at hl 2 rfl) ?_
  refine lv_aload_n hx hb dL_463 rfl (lv_at hl 0 rfl) ?_
  refine lv_iload_n hx hb dL_464 rfl (lv_at hl 3 rfl) ?_
  refine lv_iconst (v := 1) hx hb dL_465 (by decide) ?_
  refine lv_iadd hx hb dL_466 ?_
  refine va_sld hx hb hX hbl hbA hR.2.2 (hin 1 (by decide) (by decide)) dL_467 ?_
  refine lv_aload_n hx hb dL_468 rfl (lv_at hl 0 rfl) ?_
  refine lv_iload_n hx hb dL_469 rfl (lv_at hl 3 rfl) ?_
  refine lv_iconst (v := 2) hx hb dL_470 (by decide) ?_
  refine lv_iadd hx hb dL_471 ?_
  refine va_sld hx hb hX hbl hbA hR.2.2 (hin 2 (by decide) (by decide)) dL_472 ?_
  refine om_callV (ci := 7) (a := 46) (k := 139) (w := 111) (t := [om_i (xs (x3 + 1).toNatClampNeg), om_i (xs (x3 + 2).toNatClampNeg)]) (r := [om_i rv]) (v := some (om_i rv)) hx hb hml hown htb hK hN hS0 hA ⟨Nat.le_of_ble_eq_true rfl, Nat.le_of_ble_eq_true rfl⟩ (d := 60) (Nat.le_of_ble_eq_true rfl) (Nat.le_of_ble_eq_true rfl) (om_met l D cA ad 60) rfl rfl rfl (Or.inl (by decide)) (by decide +kernel) dL_473 rfl rfl rfl (om_D_kept_ok om_F 60 (Nat.le_of_ble_eq_true rfl) hc2) hl.1 hR (fun H locs hR => ?_)
  change W p l e room_1 s m #[Value.ref b] below meth c H locs 100 4000 (lw_Z below #[Value.ref b] s) (F0 m 476 ls [.int rv, .int rv])
  exact lv_icmp_eq (tgt := 1031) hx hb dL_476 (by decide) (fun _ => hback M2 H locs ls hI hR hl) (fun q => absurd rfl q)
set_option maxHeartbeats 4000000 in
set_option maxRecDepth 100000 in
theorem om_lc9 (X : om_LX D cA ad p s m meth c b L xs) (hL : L ≤ 2560) {M : om_M} (hok : om_ok9 Inv M) {x3 : Int32} {j : Nat} (hx3 : x3 = nI j) (hj : j + 5 ≤ L) {H : Heap} {locs : List Loc} {ls : Array Slot} (hR : om_Rep D cA ad (fun q => s.heap.size ≤ q) s.heap M H locs) (hl : lv_has ls 4 [(0, .ref b), (1, .ref (ad 0)), (2, .ref (ad 46)), (3, .int x3)]) (hback : ∀ (M : om_M) (H : Heap) (locs : List Loc) (ls : Array Slot), Inv M → om_Rep D cA ad (fun q => s.heap.size ≤ q) s.heap M H locs → lv_has ls 4 [(0, .ref b), (1, .ref (ad 0)), (2, .ref (ad 46)), (3, .int x3)] → W p l e room_1 s m #[Value.ref b] below meth c H locs 100 4000 (lw_Z below #[Value.ref b] s) (F0 m 1031 ls [])) : W p l e room_1 s m #[Value.ref b] below meth c H locs 100 4000 (lw_Z below #[Value.ref b] s) (F0 m 481 ls []) := by
  obtain ⟨⟨hx, hb, hr, hml, hown, hts, hX, hbl, hlocks, hgv⟩, hK, hN, hS0⟩ := X
  have htb : ∀ w ∈ om_tb, w.before #[Value.ref b] s = true := fun w hw => hts w (om_tb_in w hw)
  have hown : s.vm.findClass (om_cn 12) = some m.cls := hown
  have hA : ∀ q : Nat, s.heap.size ≤ q → (fun q : Nat => s.heap.size ≤ q) q := fun _ h => h
  have hbA : ¬ (fun q : Nat => s.heap.size ≤ q) b := Nat.not_le.mpr hbl
  have hin : ∀ k : Int32, 0 < k → k ≤ 4 → vp_in (x3 + k) L := om_hin hx3 hj hL
  obtain ⟨rv, M1, M2, hc1, hc2, hI⟩ := hok (xs (x3 + 1).toNatClampNeg) (xs (x3 + 2).toNatClampNeg)
  refine lv_aload_n hx hb dL_481 rfl (lv_at hl 1 rfl) ?_
  refine lv_aload_n hx hb dL_482 rfl (lv_at hl 0 rfl) ?_
  refine lv_iload_n hx hb dL_483 rfl (lv_at hl 3 rfl) ?_
  refine lv_iconst (v := 1) hx hb dL_484 (by decide) ?_
  refine lv_iadd hx hb dL_485 ?_
  refine va_sld hx hb hX hbl hbA hR.2.2 (hin 1 (by decide) (by decide)) dL_486 ?_
  refine lv_aload_n hx hb dL_487 rfl (lv_at hl 0 rfl) ?_
  refine lv_iload_n hx hb dL_488 rfl (lv_at hl 3 rfl) ?_
  refine lv_iconst (v := 2) hx hb dL_489 (by decide) ?_
  refine lv_iadd hx hb dL_490 ?_
  refine va_sld hx hb hX hbl hbA hR.2.2 (hin 2 (by decide) (by decide)) dL_491 ?_
  refine om_callV (ci := 6) (a := 0) (k := 97) (w := 22) (t := [om_i (xs (x3 + 1).toNatClampNeg), om_i (xs (x3 + 2).toNatClampNeg)]) (r := []) (v := some (om_i rv)) hx hb hml hown htb hK hN hS0 hA ⟨Nat.le_of_ble_eq_true rfl, Nat.le_of_ble_eq_true rfl⟩ (d := 60) (Nat.le_of_ble_eq_true rfl) (Nat.le_of_ble_eq_true rfl) (om_met l D cA ad 60) rfl rfl rfl (Or.inl (by decide)) (by decide +kernel) dL_492 rfl rfl rfl (om_C_again_ok om_F 60 (Nat.le_of_ble_eq_true rfl) hc1) hl.1 hR (fun H locs hR => ?_)
  change W p l e room_1 s m #[Value.ref b] below meth c H locs 100 4000 (lw_Z below #[Value.ref b] s) (F0 m 495 ls [.int rv])
  refine lv_aload_n hx hb dL_495 rfl (lv_at hl 2 rfl) ?_
  refine lv_aload_n hx hb dL_496 rfl (lv_at hl 0 rfl) ?_
  refine lv_iload_n hx hb dL_497 rfl (lv_at hl 3 rfl) ?_
  refine lv_iconst (v := 1) hx hb dL_498 (by decide) ?_
  refine lv_iadd hx hb dL_499 ?_
  refine va_sld hx hb hX hbl hbA hR.2.2 (hin 1 (by decide) (by decide)) dL_500 ?_
  refine lv_aload_n hx hb dL_501 rfl (lv_at hl 0 rfl) ?_
  refine lv_iload_n hx hb dL_502 rfl (lv_at hl 3 rfl) ?_
  refine lv_iconst (v := 2) hx hb dL_503 (by decide) ?_
  refine lv_iadd hx hb dL_504 ?_
  refine va_sld hx hb hX hbl hbA hR.2.2 (hin 2 (by decide) (by decide)) dL_505 ?_
  refine om_callV (ci := 7) (a := 46) (k := 141) (w := 113) (t := [om_i (xs (x3 + 1).toNatClampNeg), om_i (xs (x3 + 2).toNatClampNeg)]) (r := [om_i rv]) (v := some (om_i rv)) hx hb hml hown htb hK hN hS0 hA ⟨Nat.le_of_ble_eq_true rfl, Nat.le_of_ble_eq_true rfl⟩ (d := 60) (Nat.le_of_ble_eq_true rfl) (Nat.le_of_ble_eq_true rfl) (om_met l D cA ad 60) rfl rfl rfl (Or.inl (by decide)) (by decide +kernel) dL_506 rfl rfl rfl (om_D_again_ok om_F 60 (Nat.le_of_ble_eq_true rfl) hc2) hl.1 hR (fun H locs hR => ?_)
  change W p l e room_1 s m #[Value.ref b] below meth c H locs 100 4000 (lw_Z below #[Value.ref b] s) (F0 m 509 ls [.int rv, .int rv])
  exact lv_icmp_eq (tgt := 1031) hx hb dL_509 (by decide) (fun _ => hback M2 H locs ls hI hR hl) (fun q => absurd rfl q)
set_option maxHeartbeats 4000000 in
set_option maxRecDepth 100000 in
theorem om_lc10 (X : om_LX D cA ad p s m meth c b L xs) (hL : L ≤ 2560) {M : om_M} (hok : om_ok10 Inv M) {x3 : Int32} {j : Nat} (hx3 : x3 = nI j) (hj : j + 5 ≤ L) {H : Heap} {locs : List Loc} {ls : Array Slot} (hR : om_Rep D cA ad (fun q => s.heap.size ≤ q) s.heap M H locs) (hl : lv_has ls 4 [(0, .ref b), (1, .ref (ad 0)), (2, .ref (ad 46)), (3, .int x3)]) (hback : ∀ (M : om_M) (H : Heap) (locs : List Loc) (ls : Array Slot), Inv M → om_Rep D cA ad (fun q => s.heap.size ≤ q) s.heap M H locs → lv_has ls 4 [(0, .ref b), (1, .ref (ad 0)), (2, .ref (ad 46)), (3, .int x3)] → W p l e room_1 s m #[Value.ref b] below meth c H locs 100 4000 (lw_Z below #[Value.ref b] s) (F0 m 1031 ls [])) : W p l e room_1 s m #[Value.ref b] below meth c H locs 100 4000 (lw_Z below #[Value.ref b] s) (F0 m 514 ls []) := by
  obtain ⟨⟨hx, hb, hr, hml, hown, hts, hX, hbl, hlocks, hgv⟩, hK, hN, hS0⟩ := X
  have htb : ∀ w ∈ om_tb, w.before #[Value.ref b] s = true := fun w hw => hts w (om_tb_in w hw)
  have hown : s.vm.findClass (om_cn 12) = some m.cls := hown
  have hA : ∀ q : Nat, s.heap.size ≤ q → (fun q : Nat => s.heap.size ≤ q) q := fun _ h => h
  have hbA : ¬ (fun q : Nat => s.heap.size ≤ q) b := Nat.not_le.mpr hbl
  have hin : ∀ k : Int32, 0 < k → k ≤ 4 → vp_in (x3 + k) L := om_hin hx3 hj hL
  obtain ⟨rv, M1, M2, hc1, hc2, hI⟩ := hok (xs (x3 + 1).toNatClampNeg) (xs (x3 + 2).toNatClampNeg) (xs (x3 + 3).toNatClampNeg)
  refine lv_aload_n hx hb dL_514 rfl (lv_at hl 1 rfl) ?_
  refine lv_aload_n hx hb dL_515 rfl (lv_at hl 0 rfl) ?_
  refine lv_iload_n hx hb dL_516 rfl (lv_at hl 3 rfl) ?_
  refine lv_iconst (v := 1) hx hb dL_517 (by decide) ?_
  refine lv_iadd hx hb dL_518 ?_
  refine va_sld hx hb hX hbl hbA hR.2.2 (hin 1 (by decide) (by decide)) dL_519 ?_
  refine lv_aload_n hx hb dL_520 rfl (lv_at hl 0 rfl) ?_
  refine lv_iload_n hx hb dL_521 rfl (lv_at hl 3 rfl) ?_
  refine lv_iconst (v := 2) hx hb dL_522 (by decide) ?_
  refine lv_iadd hx hb dL_523 ?_
  refine va_sld hx hb hX hbl hbA hR.2.2 (hin 2 (by decide) (by decide)) dL_524 ?_
  refine lv_aload_n hx hb dL_525 rfl (lv_at hl 0 rfl) ?_
  refine lv_iload_n hx hb dL_526 rfl (lv_at hl 3 rfl) ?_
  refine lv_iconst (v := 3) hx hb dL_527 (by decide) ?_
  refine lv_iadd hx hb dL_528 ?_
  refine va_sld hx hb hX hbl hbA hR.2.2 (hin 3 (by decide) (by decide)) dL_529 ?_
  refine om_callV (ci := 6) (a := 0) (k := 96) (w := 25) (t := [om_i (xs (x3 + 1).toNatClampNeg), om_i (xs (x3 + 2).toNatClampNeg), om_i (xs (x3 + 3).toNatClampNeg)]) (r := []) (v := some (om_i rv)) hx hb hml hown htb hK hN hS0 hA ⟨Nat.le_of_ble_eq_true rfl, Nat.le_of_ble_eq_true rfl⟩ (d := 60) (Nat.le_of_ble_eq_true rfl) (Nat.le_of_ble_eq_true rfl) (om_met l D cA ad 60) rfl rfl rfl (Or.inl (by decide)) (by decide +kernel) dL_530 rfl rfl rfl (om_C_both_ok om_F 60 (Nat.le_of_ble_eq_true rfl) hc1) hl.1 hR (fun H locs hR => ?_)
  change W p l e room_1 s m #[Value.ref b] below meth c H locs 100 4000 (lw_Z below #[Value.ref b] s) (F0 m 533 ls [.int rv])
  refine lv_aload_n hx hb dL_533 rfl (lv_at hl 2 rfl) ?_
  refine lv_aload_n hx hb dL_534 rfl (lv_at hl 0 rfl) ?_
  refine lv_iload_n hx hb dL_535 rfl (lv_at hl 3 rfl) ?_
  refine lv_iconst (v := 1) hx hb dL_536 (by decide) ?_
  refine lv_iadd hx hb dL_537 ?_
  refine va_sld hx hb hX hbl hbA hR.2.2 (hin 1 (by decide) (by decide)) dL_538 ?_
  refine lv_aload_n hx hb dL_539 rfl (lv_at hl 0 rfl) ?_
  refine lv_iload_n hx hb dL_540 rfl (lv_at hl 3 rfl) ?_
  refine lv_iconst (v := 2) hx hb dL_541 (by decide) ?_
  refine lv_iadd hx hb dL_542 ?_
  refine va_sld hx hb hX hbl hbA hR.2.2 (hin 2 (by decide) (by decide)) dL_543 ?_
  refine lv_aload_n hx hb dL_544 rfl (lv_at hl 0 rfl) ?_
  refine lv_iload_n hx hb dL_545 rfl (lv_at hl 3 rfl) ?_
  refine lv_iconst (v := 3) hx hb dL_546 (by decide) ?_
  refine lv_iadd hx hb dL_547 ?_
  refine va_sld hx hb hX hbl hbA hR.2.2 (hin 3 (by decide) (by decide)) dL_548 ?_
  refine om_callV (ci := 7) (a := 46) (k := 142) (w := 115) (t := [om_i (xs (x3 + 1).toNatClampNeg), om_i (xs (x3 + 2).toNatClampNeg), om_i (xs (x3 + 3).toNatClampNeg)]) (r := [om_i rv]) (v := some (om_i rv)) hx hb hml hown htb hK hN hS0 hA ⟨Nat.le_of_ble_eq_true rfl, Nat.le_of_ble_eq_true rfl⟩ (d := 60) (Nat.le_of_ble_eq_true rfl) (Nat.le_of_ble_eq_true rfl) (om_met l D cA ad 60) rfl rfl rfl (Or.inl (by decide)) (by decide +kernel) dL_549 rfl rfl rfl (om_D_both_ok om_F 60 (Nat.le_of_ble_eq_true rfl) hc2) hl.1 hR (fun H locs hR => ?_)
  change W p l e room_1 s m #[Value.ref b] below meth c H locs 100 4000 (lw_Z below #[Value.ref b] s) (F0 m 552 ls [.int rv, .int rv])
  exact lv_icmp_eq (tgt := 1031) hx hb dL_552 (by decide) (fun _ => hback M2 H locs ls hI hR hl) (fun q => absurd rfl q)
set_option maxHeartbeats 4000000 in
set_option maxRecDepth 100000 in
theorem om_lc11 (X : om_LX D cA ad p s m meth c b L xs) (hL : L ≤ 2560) {M : om_M} (hok : om_ok11 Inv M) {x3 : Int32} {j : Nat} (hx3 : x3 = nI j) (hj : j + 5 ≤ L) {H : Heap} {locs : List Loc} {ls : Array Slot} (hR : om_Rep D cA ad (fun q => s.heap.size ≤ q) s.heap M H locs) (hl : lv_has ls 4 [(0, .ref b), (1, .ref (ad 0)), (2, .ref (ad 46)), (3, .int x3)]) (hback : ∀ (M : om_M) (H : Heap) (locs : List Loc) (ls : Array Slot), Inv M → om_Rep D cA ad (fun q => s.heap.size ≤ q) s.heap M H locs → lv_has ls 4 [(0, .ref b), (1, .ref (ad 0)), (2, .ref (ad 46)), (3, .int x3)] → W p l e room_1 s m #[Value.ref b] below meth c H locs 100 4000 (lw_Z below #[Value.ref b] s) (F0 m 1031 ls [])) : W p l e room_1 s m #[Value.ref b] below meth c H locs 100 4000 (lw_Z below #[Value.ref b] s) (F0 m 557 ls []) := by
  obtain ⟨⟨hx, hb, hr, hml, hown, hts, hX, hbl, hlocks, hgv⟩, hK, hN, hS0⟩ := X
  have htb : ∀ w ∈ om_tb, w.before #[Value.ref b] s = true := fun w hw => hts w (om_tb_in w hw)
  have hown : s.vm.findClass (om_cn 12) = some m.cls := hown
  have hA : ∀ q : Nat, s.heap.size ≤ q → (fun q : Nat => s.heap.size ≤ q) q := fun _ h => h
  have hbA : ¬ (fun q : Nat => s.heap.size ≤ q) b := Nat.not_le.mpr hbl
  have hin : ∀ k : Int32, 0 < k → k ≤ 4 → vp_in (x3 + k) L := om_hin hx3 hj hL
  obtain ⟨rv, M1, M2, hc1, hc2, hI⟩ := hok
  refine lv_aload_n hx hb dL_557 rfl (lv_at hl 1 rfl) ?_
  refine om_callV (ci := 6) (a := 0) (k := 98) (w := 26) (t := []) (r := []) (v := some (om_i rv)) hx hb hml hown htb hK hN hS0 hA ⟨Nat.le_of_ble_eq_true rfl, Nat.le_of_ble_eq_true rfl⟩ (d := 60) (Nat.le_of_ble_eq_true rfl) (Nat.le_of_ble_eq_true rfl) (om_met l D cA ad 60) rfl rfl rfl (Or.inl (by decide)) (by decide +kernel) dL_558 rfl rfl rfl (om_C_won_ok om_F 60 (Nat.le_of_ble_eq_true rfl) hc1) hl.1 hR (fun H locs hR => ?_)
  change W p l e room_1 s m #[Value.ref b] below meth c H locs 100 4000 (lw_Z below #[Value.ref b] s) (F0 m 561 ls [.int rv])
  refine lv_aload_n hx hb dL_561 rfl (lv_at hl 2 rfl) ?_
  refine om_callV (ci := 7) (a := 46) (k := 147) (w := 116) (t := []) (r := [om_i rv]) (v := some (om_i rv)) hx hb hml hown htb hK hN hS0 hA ⟨Nat.le_of_ble_eq_true rfl, Nat.le_of_ble_eq_true rfl⟩ (d := 60) (Nat.le_of_ble_eq_true rfl) (Nat.le_of_ble_eq_true rfl) (om_met l D cA ad 60) rfl rfl rfl (Or.inl (by decide)) (by decide +kernel) dL_562 rfl rfl rfl (om_D_won_ok om_F 60 (Nat.le_of_ble_eq_true rfl) hc2) hl.1 hR (fun H locs hR => ?_)
  change W p l e room_1 s m #[Value.ref b] below meth c H locs 100 4000 (lw_Z below #[Value.ref b] s) (F0 m 565 ls [.int rv, .int rv])
  exact lv_icmp_eq (tgt := 1031) hx hb dL_565 (by decide) (fun _ => hback M2 H locs ls hI hR hl) (fun q => absurd rfl q)
set_option maxHeartbeats 4000000 in
set_option maxRecDepth 100000 in
theorem om_lc12 (X : om_LX D cA ad p s m meth c b L xs) (hL : L ≤ 2560) {M : om_M} (hok : om_ok12 Inv M) {x3 : Int32} {j : Nat} (hx3 : x3 = nI j) (hj : j + 5 ≤ L) {H : Heap} {locs : List Loc} {ls : Array Slot} (hR : om_Rep D cA ad (fun q => s.heap.size ≤ q) s.heap M H locs) (hl : lv_has ls 4 [(0, .ref b), (1, .ref (ad 0)), (2, .ref (ad 46)), (3, .int x3)]) (hback : ∀ (M : om_M) (H : Heap) (locs : List Loc) (ls : Array Slot), Inv M → om_Rep D cA ad (fun q => s.heap.size ≤ q) s.heap M H locs → lv_has ls 4 [(0, .ref b), (1, .ref (ad 0)), (2, .ref (ad 46)), (3, .int x3)] → W p l e room_1 s m #[Value.ref b] below meth c H locs 100 4000 (lw_Z below #[Value.ref b] s) (F0 m 1031 ls [])) : W p l e room_1 s m #[Value.ref b] below meth c H locs 100 4000 (lw_Z below #[Value.ref b] s) (F0 m 570 ls []) := by
  obtain ⟨⟨hx, hb, hr, hml, hown, hts, hX, hbl, hlocks, hgv⟩, hK, hN, hS0⟩ := X
  have htb : ∀ w ∈ om_tb, w.before #[Value.ref b] s = true := fun w hw => hts w (om_tb_in w hw)
  have hown : s.vm.findClass (om_cn 12) = some m.cls := hown
  have hA : ∀ q : Nat, s.heap.size ≤ q → (fun q : Nat => s.heap.size ≤ q) q := fun _ h => h
  have hbA : ¬ (fun q : Nat => s.heap.size ≤ q) b := Nat.not_le.mpr hbl
  have hin : ∀ k : Int32, 0 < k → k ≤ 4 → vp_in (x3 + k) L := om_hin hx3 hj hL
  obtain ⟨rv, M1, M2, hc1, hc2, hI⟩ := hok (xs (x3 + 1).toNatClampNeg)
  refine lv_aload_n hx hb dL_570 rfl (lv_at hl 1 rfl) ?_
  refine lv_aload_n hx hb dL_571 rfl (lv_at hl 0 rfl) ?_
  refine lv_iload_n hx hb dL_572 rfl (lv_at hl 3 rfl) ?_
  refine lv_iconst (v := 1) hx hb dL_573 (by decide) ?_
  refine lv_iadd hx hb dL_574 ?_
  refine va_sld hx hb hX hbl hbA hR.2.2 (hin 1 (by decide) (by decide)) dL_575 ?_
  refine om_callV (ci := 6) (a := 0) (k := 100) (w := 30) (t := [om_i (xs (x3 + 1).toNatClampNeg)]) (r := []) (v := some (om_i rv)) hx hb hml hown htb hK hN hS0 hA ⟨Nat.le_of_ble_eq_true rfl, Nat.le_of_ble_eq_true rfl⟩ (d := 60) (Nat.le_of_ble_eq_true rfl) (Nat.le_of_ble_eq_true rfl) (om_met l D cA ad 60) rfl rfl rfl (Or.inl (by decide)) (by decide +kernel) dL_576 rfl rfl rfl (om_C_plan_ok om_F 60 (Nat.le_of_ble_eq_true rfl) hc1) hl.1 hR (fun H locs hR => ?_)
  change W p l e room_1 s m #[Value.ref b] below meth c H locs 100 4000 (lw_Z below #[Value.ref b] s) (F0 m 579 ls [.int rv])
  refine lv_aload_n hx hb dL_579 rfl (lv_at hl 2 rfl) ?_
  refine lv_aload_n hx hb dL_580 rfl (lv_at hl 0 rfl) ?_
  refine lv_iload_n hx hb dL_581 rfl (lv_at hl 3 rfl) ?_
  refine lv_iconst (v := 1) hx hb dL_582 (by decide) ?_
  refine lv_iadd hx hb dL_583 ?_
  refine va_sld hx hb hX hbl hbA hR.2.2 (hin 1 (by decide) (by decide)) dL_584 ?_
  refine om_callV (ci := 7) (a := 46) (k := 150) (w := 121) (t := [om_i (xs (x3 + 1).toNatClampNeg)]) (r := [om_i rv]) (v := some (om_i rv)) hx hb hml hown htb hK hN hS0 hA ⟨Nat.le_of_ble_eq_true rfl, Nat.le_of_ble_eq_true rfl⟩ (d := 60) (Nat.le_of_ble_eq_true rfl) (Nat.le_of_ble_eq_true rfl) (om_met l D cA ad 60) rfl rfl rfl (Or.inl (by decide)) (by decide +kernel) dL_585 rfl rfl rfl (om_D_plan_ok om_F 60 (Nat.le_of_ble_eq_true rfl) hc2) hl.1 hR (fun H locs hR => ?_)
  change W p l e room_1 s m #[Value.ref b] below meth c H locs 100 4000 (lw_Z below #[Value.ref b] s) (F0 m 588 ls [.int rv, .int rv])
  exact lv_icmp_eq (tgt := 1031) hx hb dL_588 (by decide) (fun _ => hback M2 H locs ls hI hR hl) (fun q => absurd rfl q)
set_option maxHeartbeats 4000000 in
set_option maxRecDepth 100000 in
theorem om_lc13 (X : om_LX D cA ad p s m meth c b L xs) (hL : L ≤ 2560) {M : om_M} (hok : om_ok13 Inv M) {x3 : Int32} {j : Nat} (hx3 : x3 = nI j) (hj : j + 5 ≤ L) {H : Heap} {locs : List Loc} {ls : Array Slot} (hR : om_Rep D cA ad (fun q => s.heap.size ≤ q) s.heap M H locs) (hl : lv_has ls 4 [(0, .ref b), (1, .ref (ad 0)), (2, .ref (ad 46)), (3, .int x3)]) (hback : ∀ (M : om_M) (H : Heap) (locs : List Loc) (ls : Array Slot), Inv M → om_Rep D cA ad (fun q => s.heap.size ≤ q) s.heap M H locs → lv_has ls 4 [(0, .ref b), (1, .ref (ad 0)), (2, .ref (ad 46)), (3, .int x3)] → W p l e room_1 s m #[Value.ref b] below meth c H locs 100 4000 (lw_Z below #[Value.ref b] s) (F0 m 1031 ls [])) : W p l e room_1 s m #[Value.ref b] below meth c H locs 100 4000 (lw_Z below #[Value.ref b] s) (F0 m 593 ls []) := by
  obtain ⟨⟨hx, hb, hr, hml, hown, hts, hX, hbl, hlocks, hgv⟩, hK, hN, hS0⟩ := X
  have htb : ∀ w ∈ om_tb, w.before #[Value.ref b] s = true := fun w hw => hts w (om_tb_in w hw)
  have hown : s.vm.findClass (om_cn 12) = some m.cls := hown
  have hA : ∀ q : Nat, s.heap.size ≤ q → (fun q : Nat => s.heap.size ≤ q) q := fun _ h => h
  have hbA : ¬ (fun q : Nat => s.heap.size ≤ q) b := Nat.not_le.mpr hbl
  have hin : ∀ k : Int32, 0 < k → k ≤ 4 → vp_in (x3 + k) L := om_hin hx3 hj hL
  obtain ⟨rv, M1, M2, hc1, hc2, hI⟩ := hok (xs (x3 + 1).toNatClampNeg) (xs (x3 + 2).toNatClampNeg)
  refine lv_aload_n hx hb dL_593 rfl (lv_at hl 1 rfl) ?_
  refine lv_aload_n hx hb dL_594 rfl (lv_at hl 0 rfl) ?_
  refine lv_iload_n hx hb dL_595 rfl (lv_at hl 3 rfl) ?_
  refine lv_iconst (v := 1) hx hb dL_596 (by decide) ?_
  refine lv_iadd hx hb dL_597 ?_
  refine va_sld hx hb hX hbl hbA hR.2.2 (hin 1 (by decide) (by decide)) dL_598 ?_
  refine lv_aload_n hx hb dL_599 rfl (lv_at hl 0 rfl) ?_
  refine lv_iload_n hx hb dL_600 rfl (lv_at hl 3 rfl) ?_
  refine lv_iconst (v := 2) hx hb dL_601 (by decide) ?_
  refine lv_iadd hx hb dL_602 ?_
  refine va_sld hx hb hX hbl hbA hR.2.2 (hin 2 (by decide) (by decide)) dL_603 ?_
  refine om_callV (ci := 6) (a := 0) (k := 101) (w := 32) (t := [om_i (xs (x3 + 1).toNatClampNeg), om_i (xs (x3 + 2).toNatClampNeg)]) (r := []) (v := some (om_i rv)) hx hb hml hown htb hK hN hS0 hA ⟨Nat.le_of_ble_eq_true rfl, Nat.le_of_ble_eq_true rfl⟩ (d := 60) (Nat.le_of_ble_eq_true rfl) (Nat.le_of_ble_eq_true rfl) (om_met l D cA ad 60) rfl rfl rfl (Or.inl (by decide)) (by decide +kernel) dL_604 rfl rfl rfl (om_C_after_ok om_F 60 (Nat.le_of_ble_eq_true rfl) hc1) hl.1 hR (fun H locs hR => ?_)
  change W p l e room_1 s m #[Value.ref b] below meth c H locs 100 4000 (lw_Z below #[Value.ref b] s) (F0 m 607 ls [.int rv])
  refine lv_aload_n hx hb dL_607 rfl (lv_at hl 2 rfl) ?_
  refine lv_aload_n hx hb dL_608 rfl (lv_at hl 0 rfl) ?_
  refine lv_iload_n hx hb dL_609 rfl (lv_at hl 3 rfl) ?_
  refine lv_iconst (v := 1) hx hb dL_610 (by decide) ?_
  refine lv_iadd hx hb dL_611 ?_
  refine va_sld hx hb hX hbl hbA hR.2.2 (hin 1 (by decide) (by decide)) dL_612 ?_
  refine lv_aload_n hx hb dL_613 rfl (lv_at hl 0 rfl) ?_
  refine lv_iload_n hx hb dL_614 rfl (lv_at hl 3 rfl) ?_
  refine lv_iconst (v := 2) hx hb dL_615 (by decide) ?_
  refine lv_iadd hx hb dL_616 ?_
  refine va_sld hx hb hX hbl hbA hR.2.2 (hin 2 (by decide) (by decide)) dL_617 ?_
  refine om_callV (ci := 7) (a := 46) (k := 154) (w := 125) (t := [om_i (xs (x3 + 1).toNatClampNeg), om_i (xs (x3 + 2).toNatClampNeg)]) (r := [om_i rv]) (v := some (om_i rv)) hx hb hml hown htb hK hN hS0 hA ⟨Nat.le_of_ble_eq_true rfl, Nat.le_of_ble_eq_true rfl⟩ (d := 60) (Nat.le_of_ble_eq_true rfl) (Nat.le_of_ble_eq_true rfl) (om_met l D cA ad 60) rfl rfl rfl (Or.inl (by decide)) (by decide +kernel) dL_618 rfl rfl rfl (om_D_after_ok om_F 60 (Nat.le_of_ble_eq_true rfl) hc2) hl.1 hR (fun H locs hR => ?_)
  change W p l e room_1 s m #[Value.ref b] below meth c H locs 100 4000 (lw_Z below #[Value.ref b] s) (F0 m 621 ls [.int rv, .int rv])
  exact lv_icmp_eq (tgt := 1031) hx hb dL_621 (by decide) (fun _ => hback M2 H locs ls hI hR hl) (fun q => absurd rfl q)
set_option maxHeartbeats 4000000 in
set_option maxRecDepth 100000 in
theorem om_lc14 (X : om_LX D cA ad p s m meth c b L xs) (hL : L ≤ 2560) {M : om_M} (hok : om_ok14 Inv M) {x3 : Int32} {j : Nat} (hx3 : x3 = nI j) (hj : j + 5 ≤ L) {H : Heap} {locs : List Loc} {ls : Array Slot} (hR : om_Rep D cA ad (fun q => s.heap.size ≤ q) s.heap M H locs) (hl : lv_has ls 4 [(0, .ref b), (1, .ref (ad 0)), (2, .ref (ad 46)), (3, .int x3)]) (hback : ∀ (M : om_M) (H : Heap) (locs : List Loc) (ls : Array Slot), Inv M → om_Rep D cA ad (fun q => s.heap.size ≤ q) s.heap M H locs → lv_has ls 4 [(0, .ref b), (1, .ref (ad 0)), (2, .ref (ad 46)), (3, .int x3)] → W p l e room_1 s m #[Value.ref b] below meth c H locs 100 4000 (lw_Z below #[Value.ref b] s) (F0 m 1031 ls [])) : W p l e room_1 s m #[Value.ref b] below meth c H locs 100 4000 (lw_Z below #[Value.ref b] s) (F0 m 626 ls []) := by
  obtain ⟨⟨hx, hb, hr, hml, hown, hts, hX, hbl, hlocks, hgv⟩, hK, hN, hS0⟩ := X
  have htb : ∀ w ∈ om_tb, w.before #[Value.ref b] s = true := fun w hw => hts w (om_tb_in w hw)
  have hown : s.vm.findClass (om_cn 12) = some m.cls := hown
  have hA : ∀ q : Nat, s.heap.size ≤ q → (fun q : Nat => s.heap.size ≤ q) q := fun _ h => h
  have hbA : ¬ (fun q : Nat => s.heap.size ≤ q) b := Nat.not_le.mpr hbl
  have hin : ∀ k : Int32, 0 < k → k ≤ 4 → vp_in (x3 + k) L := om_hin hx3 hj hL
  obtain ⟨rv, M1, M2, hc1, hc2, hI⟩ := hok (xs (x3 + 1).toNatClampNeg) (xs (x3 + 2).toNatClampNeg)
  refine lv_aload_n hx hb dL_626 rfl (lv_at hl 1 rfl) ?_
  refine lv_aload_n hx hb dL_627 rfl (lv_at hl 0 rfl) ?_
  refine lv_iload_n hx hb dL_628 rfl (lv_at hl 3 rfl) ?_
  refine lv_iconst (v := 1) hx hb dL_629 (by decide) ?_
  refine lv_iadd hx hb dL_630 ?_
  refine va_sld hx hb hX hbl hbA hR.2.2 (hin 1 (by decide) (by decide)) dL_631 ?_
  refine lv_aload_n hx hb dL_632 rfl (lv_at hl 0 rfl) ?_
  refine lv_iload_n hx hb dL_633 rfl (lv_at hl 3 rfl) ?_
  refine lv_iconst (v := 2) hx hb dL_634 (by decide) ?_
  refine lv_iadd hx hb dL_635 ?_
  refine va_sld hx hb hX hbl hbA hR.2.2 (hin 2 (by decide) (by decide)) dL_636 ?_
  refine om_callV (ci := 6) (a := 0) (k := 103) (w := 34) (t := [om_i (xs (x3 + 1).toNatClampNeg), om_i (xs (x3 + 2).toNatClampNeg)]) (r := []) (v := some (om_i rv)) hx hb hml hown htb hK hN hS0 hA ⟨Nat.le_of_ble_eq_true rfl, Nat.le_of_ble_eq_true rfl⟩ (d := 60) (Nat.le_of_ble_eq_true rfl) (Nat.le_of_ble_eq_true rfl) (om_met l D cA ad 60) rfl rfl rfl (Or.inl (by decide)) (by decide +kernel) dL_637 rfl rfl rfl (om_C_mean_ok om_F 60 (Nat.le_of_ble_eq_true rfl) hc1) hl.1 hR (fun H locs hR => ?_)
  change W p l e room_1 s m #[Value.ref b] below meth c H locs 100 4000 (lw_Z below #[Value.ref b] s) (F0 m 640 ls [.int rv])
  refine lv_aload_n hx hb dL_640 rfl (lv_at hl 2 rfl) ?_
  refine lv_aload_n hx hb dL_641 rfl (lv_at hl 0 rfl) ?_
  refine lv_iload_n hx hb dL_642 rfl (lv_at hl 3 rfl) ?_
  refine lv_iconst (v := 1) hx hb dL_643 (by decide) ?_
  refine lv_iadd hx hb dL_644 ?_
  refine va_sld hx hb hX hbl hbA hR.2.2 (hin 1 (by decide) (by decide)) dL_645 ?_
  refine lv_aload_n hx hb dL_646 rfl (lv_at hl 0 rfl) ?_
  refine lv_iload_n hx hb dL_647 rfl (lv_at hl 3 rfl) ?_
  refine lv_iconst (v := 2) hx hb dL_648 (by decide) ?_
  refine lv_iadd hx hb dL_649 ?_
  refine va_sld hx hb hX hbl hbA hR.2.2 (hin 2 (by decide) (by decide)) dL_650 ?_
  refine om_callV (ci := 7) (a := 46) (k := 156) (w := 129) (t := [om_i (xs (x3 + 1).toNatClampNeg), om_i (xs (x3 + 2).toNatClampNeg)]) (r := [om_i rv]) (v := some (om_i rv)) hx hb hml hown htb hK hN hS0 hA ⟨Nat.le_of_ble_eq_true rfl, Nat.le_of_ble_eq_true rfl⟩ (d := 60) (Nat.le_of_ble_eq_true rfl) (Nat.le_of_ble_eq_true rfl) (om_met l D cA ad 60) rfl rfl rfl (Or.inl (by decide)) (by decide +kernel) dL_651 rfl rfl rfl (om_D_mean_ok om_F 60 (Nat.le_of_ble_eq_true rfl) hc2) hl.1 hR (fun H locs hR => ?_)
  change W p l e room_1 s m #[Value.ref b] below meth c H locs 100 4000 (lw_Z below #[Value.ref b] s) (F0 m 654 ls [.int rv, .int rv])
  exact lv_icmp_eq (tgt := 1031) hx hb dL_654 (by decide) (fun _ => hback M2 H locs ls hI hR hl) (fun q => absurd rfl q)
set_option maxHeartbeats 4000000 in
set_option maxRecDepth 100000 in
theorem om_lc15 (X : om_LX D cA ad p s m meth c b L xs) (hL : L ≤ 2560) {M : om_M} (hok : om_ok15 Inv M) {x3 : Int32} {j : Nat} (hx3 : x3 = nI j) (hj : j + 5 ≤ L) {H : Heap} {locs : List Loc} {ls : Array Slot} (hR : om_Rep D cA ad (fun q => s.heap.size ≤ q) s.heap M H locs) (hl : lv_has ls 4 [(0, .ref b), (1, .ref (ad 0)), (2, .ref (ad 46)), (3, .int x3)]) (hback : ∀ (M : om_M) (H : Heap) (locs : List Loc) (ls : Array Slot), Inv M → om_Rep D cA ad (fun q => s.heap.size ≤ q) s.heap M H locs → lv_has ls 4 [(0, .ref b), (1, .ref (ad 0)), (2, .ref (ad 46)), (3, .int x3)] → W p l e room_1 s m #[Value.ref b] below meth c H locs 100 4000 (lw_Z below #[Value.ref b] s) (F0 m 1031 ls [])) : W p l e room_1 s m #[Value.ref b] below meth c H locs 100 4000 (lw_Z below #[Value.ref b] s) (F0 m 659 ls []) := by
  obtain ⟨⟨hx, hb, hr, hml, hown, hts, hX, hbl, hlocks, hgv⟩, hK, hN, hS0⟩ := X
  have htb : ∀ w ∈ om_tb, w.before #[Value.ref b] s = true := fun w hw => hts w (om_tb_in w hw)
  have hown : s.vm.findClass (om_cn 12) = some m.cls := hown
  have hA : ∀ q : Nat, s.heap.size ≤ q → (fun q : Nat => s.heap.size ≤ q) q := fun _ h => h
  have hbA : ¬ (fun q : Nat => s.heap.size ≤ q) b := Nat.not_le.mpr hbl
  have hin : ∀ k : Int32, 0 < k → k ≤ 4 → vp_in (x3 + k) L := om_hin hx3 hj hL
  obtain ⟨rv, M1, M2, hc1, hc2, hI⟩ := hok (xs (x3 + 1).toNatClampNeg) (xs (x3 + 2).toNatClampNeg) (xs (x3 + 3).toNatClampNeg) (xs (x3 + 4).toNatClampNeg)
  refine lv_aload_n hx hb dL_659 rfl (lv_at hl 1 rfl) ?_
  refine lv_aload_n hx hb dL_660 rfl (lv_at hl 0 rfl) ?_
  refine lv_iload_n hx hb dL_661 rfl (lv_at hl 3 rfl) ?_
  refine lv_iconst (v := 1) hx hb dL_662 (by decide) ?_
  refine lv_iadd hx hb dL_663 ?_
  refine va_sld hx hb hX hbl hbA hR.2.2 (hin 1 (by decide) (by decide)) dL_664 ?_
  refine lv_aload_n hx hb dL_665 rfl (lv_at hl 0 rfl) ?_
  refine lv_iload_n hx hb dL_666 rfl (lv_at hl 3 rfl) ?_
  refine lv_iconst (v := 2) hx hb dL_667 (by decide) ?_
  refine lv_iadd hx hb dL_668 ?_
  refine va_sld hx hb hX hbl hbA hR.2.2 (hin 2 (by decide) (by decide)) dL_669 ?_
  refine lv_aload_n hx hb dL_670 rfl (lv_at hl 0 rfl) ?_
  refine lv_iload_n hx hb dL_671 rfl (lv_at hl 3 rfl) ?_
  refine lv_iconst (v := 3) hx hb dL_672 (by decide) ?_
  refine lv_iadd hx hb dL_673 ?_
  refine va_sld hx hb hX hbl hbA hR.2.2 (hin 3 (by decide) (by decide)) dL_674 ?_
  refine lv_aload_n hx hb dL_675 rfl (lv_at hl 0 rfl) ?_
  refine lv_iload_n hx hb dL_676 rfl (lv_at hl 3 rfl) ?_
  refine lv_iconst (v := 4) hx hb dL_677 (by decide) ?_
  refine lv_iadd hx hb dL_678 ?_
  refine va_sld hx hb hX hbl hbA hR.2.2 (hin 4 (by decide) (by decide)) dL_679 ?_
  refine om_callV (ci := 6) (a := 0) (k := 104) (w := 43) (t := [om_i (xs (x3 + 1).toNatClampNeg), om_i (xs (x3 + 2).toNatClampNeg), om_i (xs (x3 + 3).toNatClampNeg), om_i (xs (x3 + 4).toNatClampNeg)]) (r := []) (v := some (om_i rv)) hx hb hml hown htb hK hN hS0 hA ⟨Nat.le_of_ble_eq_true rfl, Nat.le_of_ble_eq_true rfl⟩ (d := 60) (Nat.le_of_ble_eq_true rfl) (Nat.le_of_ble_eq_true rfl) (om_met l D cA ad 60) rfl rfl rfl (Or.inl (by decide)) (by decide +kernel) dL_680 rfl rfl rfl (om_C_rate_ok om_F 60 (Nat.le_of_ble_eq_true rfl) hc1) hl.1 hR (fun H locs hR => ?_)
  change W p l e room_1 s m #[Value.ref b] below meth c H locs 100 4000 (lw_Z below #[Value.ref b] s) (F0 m 683 ls [.int rv])
  refine lv_aload_n hx hb dL_683 rfl (lv_at hl 2 rfl) ?_
  refine lv_aload_n hx hb dL_684 rfl (lv_at hl 0 rfl) ?_
  refine lv_iload_n hx hb dL_685 rfl (lv_at hl 3 rfl) ?_
  refine lv_iconst (v := 1) hx hb dL_686 (by decide) ?_
  refine lv_iadd hx hb dL_687 ?_
  refine va_sld hx hb hX hbl hbA hR.2.2 (hin 1 (by decide) (by decide)) dL_688 ?_
  refine lv_aload_n hx hb dL_689 rfl (lv_at hl 0 rfl) ?_
  refine lv_iload_n hx hb dL_690 rfl (lv_at hl 3 rfl) ?_
  refine lv_iconst (v := 2) hx hb dL_691 (by decide) ?_
  refine lv_iadd hx hb dL_692 ?_
  refine va_sld hx hb hX hbl hbA hR.2.2 (hin 2 (by decide) (by decide)) dL_693 ?_
  refine lv_aload_n hx hb dL_694 rfl (lv_at hl 0 rfl) ?_
  refine lv_iload_n hx hb dL_695 rfl (lv_at hl 3 rfl) ?_
  refine lv_iconst (v := 3) hx hb dL_696 (by decide) ?_
  refine lv_iadd hx hb dL_697 ?_
  refine va_sld hx hb hX hbl hbA hR.2.2 (hin 3 (by decide) (by decide)) dL_698 ?_
  refine lv_aload_n hx hb dL_699 rfl (lv_at hl 0 rfl) ?_
  refine lv_iload_n hx hb dL_700 rfl (lv_at hl 3 rfl) ?_
  refine lv_iconst (v := 4) hx hb dL_701 (by decide) ?_
  refine lv_iadd hx hb dL_702 ?_
  refine va_sld hx hb hX hbl hbA hR.2.2 (hin 4 (by decide) (by decide)) dL_703 ?_
  refine om_callV (ci := 7) (a := 46) (k := 157) (w := 131) (t := [om_i (xs (x3 + 1).toNatClampNeg), om_i (xs (x3 + 2).toNatClampNeg), om_i (xs (x3 + 3).toNatClampNeg), om_i (xs (x3 + 4).toNatClampNeg)]) (r := [om_i rv]) (v := some (om_i rv)) hx hb hml hown htb hK hN hS0 hA ⟨Nat.le_of_ble_eq_true rfl, Nat.le_of_ble_eq_true rfl⟩ (d := 60) (Nat.le_of_ble_eq_true rfl) (Nat.le_of_ble_eq_true rfl) (om_met l D cA ad 60) rfl rfl rfl (Or.inl (by decide)) (by decide +kernel) dL_704 rfl rfl rfl (om_D_rate_ok om_F 60 (Nat.le_of_ble_eq_true rfl) hc2) hl.1 hR (fun H locs hR => ?_)
  change W p l e room_1 s m #[Value.ref b] below meth c H locs 100 4000 (lw_Z below #[Value.ref b] s) (F0 m 707 ls [.int rv, .int rv])
  exact lv_icmp_eq (tgt := 1031) hx hb dL_707 (by decide) (fun _ => hback M2 H locs ls hI hR hl) (fun q => absurd rfl q)
set_option maxHeartbeats 4000000 in
set_option maxRecDepth 100000 in
theorem om_lc16 (X : om_LX D cA ad p s m meth c b L xs) (hL : L ≤ 2560) {M : om_M} (hok : om_ok16 Inv M) {x3 : Int32} {j : Nat} (hx3 : x3 = nI j) (hj : j + 5 ≤ L) {H : Heap} {locs : List Loc} {ls : Array Slot} (hR : om_Rep D cA ad (fun q => s.heap.size ≤ q) s.heap M H locs) (hl : lv_has ls 4 [(0, .ref b), (1, .ref (ad 0)), (2, .ref (ad 46)), (3, .int x3)]) (hback : ∀ (M : om_M) (H : Heap) (locs : List Loc) (ls : Array Slot), Inv M → om_Rep D cA ad (fun q => s.heap.size ≤ q) s.heap M H locs → lv_has ls 4 [(0, .ref b), (1, .ref (ad 0)), (2, .ref (ad 46)), (3, .int x3)] → W p l e room_1 s m #[Value.ref b] below meth c H locs 100 4000 (lw_Z below #[Value.ref b] s) (F0 m 1031 ls [])) : W p l e room_1 s m #[Value.ref b] below meth c H locs 100 4000 (lw_Z below #[Value.ref b] s) (F0 m 712 ls []) := by
  obtain ⟨⟨hx, hb, hr, hml, hown, hts, hX, hbl, hlocks, hgv⟩, hK, hN, hS0⟩ := X
  have htb : ∀ w ∈ om_tb, w.before #[Value.ref b] s = true := fun w hw => hts w (om_tb_in w hw)
  have hown : s.vm.findClass (om_cn 12) = some m.cls := hown
  have hA : ∀ q : Nat, s.heap.size ≤ q → (fun q : Nat => s.heap.size ≤ q) q := fun _ h => h
  have hbA : ¬ (fun q : Nat => s.heap.size ≤ q) b := Nat.not_le.mpr hbl
  have hin : ∀ k : Int32, 0 < k → k ≤ 4 → vp_in (x3 + k) L := om_hin hx3 hj hL
  obtain ⟨rv, M1, M2, hc1, hc2, hI⟩ := hok (xs (x3 + 1).toNatClampNeg)
  refine lv_aload_n hx hb dL_712 rfl (lv_at hl 1 rfl) ?_
  refine lv_aload_n hx hb dL_713 rfl (lv_at hl 0 rfl) ?_
  refine lv_iload_n hx hb dL_714 rfl (lv_at hl 3 rfl) ?_
  refine lv_iconst (v := 1) hx hb dL_715 (by decide) ?_
  refine lv_iadd hx hb dL_716 ?_
  refine va_sld hx hb hX hbl hbA hR.2.2 (hin 1 (by decide) (by decide)) dL_717 ?_
  refine om_callV (ci := 6) (a := 0) (k := 105) (w := 44) (t := [om_i (xs (x3 + 1).toNatClampNeg)]) (r := []) (v := some (om_i rv)) hx hb hml hown htb hK hN hS0 hA ⟨Nat.le_of_ble_eq_true rfl, Nat.le_of_ble_eq_true rfl⟩ (d := 60) (Nat.le_of_ble_eq_true rfl) (Nat.le_of_ble_eq_true rfl) (om_met l D cA ad 60) rfl rfl rfl (Or.inl (by decide)) (by decide +kernel) dL_718 rfl rfl rfl (om_C_tell_ok om_F 60 (Nat.le_of_ble_eq_true rfl) hc1) hl.1 hR (fun H locs hR => ?_)
  change W p l e room_1 s m #[Value.ref b] below meth c H locs 100 4000 (lw_Z below #[Value.ref b] s) (F0 m 721 ls [.int rv])
  refine lv_aload_n hx hb dL_721 rfl (lv_at hl 2 rfl) ?_
  refine lv_aload_n hx hb dL_722 rfl (lv_at hl 0 rfl) ?_
  refine lv_iload_n hx hb dL_723 rfl (lv_at hl 3 rfl) ?_
  refine lv_iconst (v := 1) hx hb dL_724 (by decide) ?_
  refine lv_iadd hx hb dL_725 ?_
  refine va_sld hx hb hX hbl hbA hR.2.2 (hin 1 (by decide) (by decide)) dL_726 ?_
  refine om_callV (ci := 7) (a := 46) (k := 158) (w := 132) (t := [om_i (xs (x3 + 1).toNatClampNeg)]) (r := [om_i rv]) (v := some (om_i rv)) hx hb hml hown htb hK hN hS0 hA ⟨Nat.le_of_ble_eq_true rfl, Nat.le_of_ble_eq_true rfl⟩ (d := 60) (Nat.le_of_ble_eq_true rfl) (Nat.le_of_ble_eq_true rfl) (om_met l D cA ad 60) rfl rfl rfl (Or.inl (by decide)) (by decide +kernel) dL_727 rfl rfl rfl (om_D_tell_ok om_F 60 (Nat.le_of_ble_eq_true rfl) hc2) hl.1 hR (fun H locs hR => ?_)
  change W p l e room_1 s m #[Value.ref b] below meth c H locs 100 4000 (lw_Z below #[Value.ref b] s) (F0 m 730 ls [.int rv, .int rv])
  exact lv_icmp_eq (tgt := 1031) hx hb dL_730 (by decide) (fun _ => hback M2 H locs ls hI hR hl) (fun q => absurd rfl q)
set_option maxHeartbeats 4000000 in
set_option maxRecDepth 100000 in
theorem om_lc17 (X : om_LX D cA ad p s m meth c b L xs) (hL : L ≤ 2560) {M : om_M} (hok : om_ok17 Inv M) {x3 : Int32} {j : Nat} (hx3 : x3 = nI j) (hj : j + 5 ≤ L) {H : Heap} {locs : List Loc} {ls : Array Slot} (hR : om_Rep D cA ad (fun q => s.heap.size ≤ q) s.heap M H locs) (hl : lv_has ls 4 [(0, .ref b), (1, .ref (ad 0)), (2, .ref (ad 46)), (3, .int x3)]) (hback : ∀ (M : om_M) (H : Heap) (locs : List Loc) (ls : Array Slot), Inv M → om_Rep D cA ad (fun q => s.heap.size ≤ q) s.heap M H locs → lv_has ls 4 [(0, .ref b), (1, .ref (ad 0)), (2, .ref (ad 46)), (3, .int x3)] → W p l e room_1 s m #[Value.ref b] below meth c H locs 100 4000 (lw_Z below #[Value.ref b] s) (F0 m 1031 ls [])) : W p l e room_1 s m #[Value.ref b] below meth c H locs 100 4000 (lw_Z below #[Value.ref b] s) (F0 m 735 ls []) := by
  obtain ⟨⟨hx, hb, hr, hml, hown, hts, hX, hbl, hlocks, hgv⟩, hK, hN, hS0⟩ := X
  have htb : ∀ w ∈ om_tb, w.before #[Value.ref b] s = true := fun w hw => hts w (om_tb_in w hw)
  have hown : s.vm.findClass (om_cn 12) = some m.cls := hown
  have hA : ∀ q : Nat, s.heap.size ≤ q → (fun q : Nat => s.heap.size ≤ q) q := fun _ h => h
  have hbA : ¬ (fun q : Nat => s.heap.size ≤ q) b := Nat.not_le.mpr hbl
  have hin : ∀ k : Int32, 0 < k → k ≤ 4 → vp_in (x3 + k) L := om_hin hx3 hj hL
  obtain ⟨rv, M1, M2, hc1, hc2, hI⟩ := hok (xs (x3 + 1).toNatClampNeg)
  refine lv_aload_n hx hb dL_735 rfl (lv_at hl 1 rfl) ?_
  refine lv_aload_n hx hb dL_736 rfl (lv_at hl 0 rfl) ?_
  refine lv_iload_n hx hb dL_737 rfl (lv_at hl 3 rfl) ?_
  refine lv_iconst (v := 1) hx hb dL_738 (by decide) ?_
  refine lv_iadd hx hb dL_739 ?_
  refine va_sld hx hb hX hbl hbA hR.2.2 (hin 1 (by decide) (by decide)) dL_740 ?_
  refine om_callV (ci := 6) (a := 0) (k := 106) (w := 45) (t := [om_i (xs (x3 + 1).toNatClampNeg)]) (r := []) (v := some (om_i rv)) hx hb hml hown htb hK hN hS0 hA ⟨Nat.le_of_ble_eq_true rfl, Nat.le_of_ble_eq_true rfl⟩ (d := 60) (Nat.le_of_ble_eq_true rfl) (Nat.le_of_ble_eq_true rfl) (om_met l D cA ad 60) rfl rfl rfl (Or.inl (by decide)) (by decide +kernel) dL_741 rfl rfl rfl (om_C_untell_ok om_F 60 (Nat.le_of_ble_eq_true rfl) hc1) hl.1 hR (fun H locs hR => ?_)
  change W p l e room_1 s m #[Value.ref b] below meth c H locs 100 4000 (lw_Z below #[Value.ref b] s) (F0 m 744 ls [.int rv])
  refine lv_aload_n hx hb dL_744 rfl (lv_at hl 2 rfl) ?_
  refine lv_aload_n hx hb dL_745 rfl (lv_at hl 0 rfl) ?_
  refine lv_iload_n hx hb dL_746 rfl (lv_at hl 3 rfl) ?_
  refine lv_iconst (v := 1) hx hb dL_747 (by decide) ?_
  refine lv_iadd hx hb dL_748 ?_
  refine va_sld hx hb hX hbl hbA hR.2.2 (hin 1 (by decide) (by decide)) dL_749 ?_
  refine om_callV (ci := 7) (a := 46) (k := 159) (w := 133) (t := [om_i (xs (x3 + 1).toNatClampNeg)]) (r := [om_i rv]) (v := some (om_i rv)) hx hb hml hown htb hK hN hS0 hA ⟨Nat.le_of_ble_eq_true rfl, Nat.le_of_ble_eq_true rfl⟩ (d := 60) (Nat.le_of_ble_eq_true rfl) (Nat.le_of_ble_eq_true rfl) (om_met l D cA ad 60) rfl rfl rfl (Or.inl (by decide)) (by decide +kernel) dL_750 rfl rfl rfl (om_D_untell_ok om_F 60 (Nat.le_of_ble_eq_true rfl) hc2) hl.1 hR (fun H locs hR => ?_)
  change W p l e room_1 s m #[Value.ref b] below meth c H locs 100 4000 (lw_Z below #[Value.ref b] s) (F0 m 753 ls [.int rv, .int rv])
  exact lv_icmp_eq (tgt := 1031) hx hb dL_753 (by decide) (fun _ => hback M2 H locs ls hI hR hl) (fun q => absurd rfl q)
set_option maxHeartbeats 4000000 in
set_option maxRecDepth 100000 in
theorem om_lc18 (X : om_LX D cA ad p s m meth c b L xs) (hL : L ≤ 2560) {M : om_M} (hok : om_ok18 Inv M) {x3 : Int32} {j : Nat} (hx3 : x3 = nI j) (hj : j + 5 ≤ L) {H : Heap} {locs : List Loc} {ls : Array Slot} (hR : om_Rep D cA ad (fun q => s.heap.size ≤ q) s.heap M H locs) (hl : lv_has ls 4 [(0, .ref b), (1, .ref (ad 0)), (2, .ref (ad 46)), (3, .int x3)]) (hback : ∀ (M : om_M) (H : Heap) (locs : List Loc) (ls : Array Slot), Inv M → om_Rep D cA ad (fun q => s.heap.size ≤ q) s.heap M H locs → lv_has ls 4 [(0, .ref b), (1, .ref (ad 0)), (2, .ref (ad 46)), (3, .int x3)] → W p l e room_1 s m #[Value.ref b] below meth c H locs 100 4000 (lw_Z below #[Value.ref b] s) (F0 m 1031 ls [])) : W p l e room_1 s m #[Value.ref b] below meth c H locs 100 4000 (lw_Z below #[Value.ref b] s) (F0 m 758 ls []) := by
  obtain ⟨⟨hx, hb, hr, hml, hown, hts, hX, hbl, hlocks, hgv⟩, hK, hN, hS0⟩ := X
  have htb : ∀ w ∈ om_tb, w.before #[Value.ref b] s = true := fun w hw => hts w (om_tb_in w hw)
  have hown : s.vm.findClass (om_cn 12) = some m.cls := hown
  have hA : ∀ q : Nat, s.heap.size ≤ q → (fun q : Nat => s.heap.size ≤ q) q := fun _ h => h
  have hbA : ¬ (fun q : Nat => s.heap.size ≤ q) b := Nat.not_le.mpr hbl
  have hin : ∀ k : Int32, 0 < k → k ≤ 4 → vp_in (x3 + k) L := om_hin hx3 hj hL
  obtain ⟨rv, M1, M2, hc1, hc2, hI⟩ := hok (xs (x3 + 1).toNatClampNeg)
  refine lv_aload_n hx hb dL_758 rfl (lv_at hl 1 rfl) ?_
  refine lv_aload_n hx hb dL_759 rfl (lv_at hl 0 rfl) ?_
  refine lv_iload_n hx hb dL_760 rfl (lv_at hl 3 rfl) ?_
  refine lv_iconst (v := 1) hx hb dL_761 (by decide) ?_
  refine lv_iadd hx hb dL_762 ?_
  refine va_sld hx hb hX hbl hbA hR.2.2 (hin 1 (by decide) (by decide)) dL_763 ?_
  refine om_callV (ci := 6) (a := 0) (k := 108) (w := 46) (t := [om_i (xs (x3 + 1).toNatClampNeg)]) (r := []) (v := some (om_i rv)) hx hb hml hown htb hK hN hS0 hA ⟨Nat.le_of_ble_eq_true rfl, Nat.le_of_ble_eq_true rfl⟩ (d := 60) (Nat.le_of_ble_eq_true rfl) (Nat.le_of_ble_eq_true rfl) (om_met l D cA ad 60) rfl rfl rfl (Or.inl (by decide)) (by decide +kernel) dL_764 rfl rfl rfl (om_C_judged_ok om_F 60 (Nat.le_of_ble_eq_true rfl) hc1) hl.1 hR (fun H locs hR => ?_)
  change W p l e room_1 s m #[Value.ref b] below meth c H locs 100 4000 (lw_Z below #[Value.ref b] s) (F0 m 767 ls [.int rv])
  refine lv_aload_n hx hb dL_767 rfl (lv_at hl 2 rfl) ?_
  refine lv_aload_n hx hb dL_768 rfl (lv_at hl 0 rfl) ?_
  refine lv_iload_n hx hb dL_769 rfl (lv_at hl 3 rfl) ?_
  refine lv_iconst (v := 1) hx hb dL_770 (by decide) ?_
  refine lv_iadd hx hb dL_771 ?_
  refine va_sld hx hb hX hbl hbA hR.2.2 (hin 1 (by decide) (by decide)) dL_772 ?_
  refine om_callV (ci := 7) (a := 46) (k := 164) (w := 134) (t := [om_i (xs (x3 + 1).toNatClampNeg)]) (r := [om_i rv]) (v := some (om_i rv)) hx hb hml hown htb hK hN hS0 hA ⟨Nat.le_of_ble_eq_true rfl, Nat.le_of_ble_eq_true rfl⟩ (d := 60) (Nat.le_of_ble_eq_true rfl) (Nat.le_of_ble_eq_true rfl) (om_met l D cA ad 60) rfl rfl rfl (Or.inl (by decide)) (by decide +kernel) dL_773 rfl rfl rfl (om_D_judged_ok om_F 60 (Nat.le_of_ble_eq_true rfl) hc2) hl.1 hR (fun H locs hR => ?_)
  change W p l e room_1 s m #[Value.ref b] below meth c H locs 100 4000 (lw_Z below #[Value.ref b] s) (F0 m 776 ls [.int rv, .int rv])
  exact lv_icmp_eq (tgt := 1031) hx hb dL_776 (by decide) (fun _ => hback M2 H locs ls hI hR hl) (fun q => absurd rfl q)
set_option maxHeartbeats 4000000 in
set_option maxRecDepth 100000 in
theorem om_lc19 (X : om_LX D cA ad p s m meth c b L xs) (hL : L ≤ 2560) {M : om_M} (hok : om_ok19 Inv M) {x3 : Int32} {j : Nat} (hx3 : x3 = nI j) (hj : j + 5 ≤ L) {H : Heap} {locs : List Loc} {ls : Array Slot} (hR : om_Rep D cA ad (fun q => s.heap.size ≤ q) s.heap M H locs) (hl : lv_has ls 4 [(0, .ref b), (1, .ref (ad 0)), (2, .ref (ad 46)), (3, .int x3)]) (hback : ∀ (M : om_M) (H : Heap) (locs : List Loc) (ls : Array Slot), Inv M → om_Rep D cA ad (fun q => s.heap.size ≤ q) s.heap M H locs → lv_has ls 4 [(0, .ref b), (1, .ref (ad 0)), (2, .ref (ad 46)), (3, .int x3)] → W p l e room_1 s m #[Value.ref b] below meth c H locs 100 4000 (lw_Z below #[Value.ref b] s) (F0 m 1031 ls [])) : W p l e room_1 s m #[Value.ref b] below meth c H locs 100 4000 (lw_Z below #[Value.ref b] s) (F0 m 781 ls []) := by
  obtain ⟨⟨hx, hb, hr, hml, hown, hts, hX, hbl, hlocks, hgv⟩, hK, hN, hS0⟩ := X
  have htb : ∀ w ∈ om_tb, w.before #[Value.ref b] s = true := fun w hw => hts w (om_tb_in w hw)
  have hown : s.vm.findClass (om_cn 12) = some m.cls := hown
  have hA : ∀ q : Nat, s.heap.size ≤ q → (fun q : Nat => s.heap.size ≤ q) q := fun _ h => h
  have hbA : ¬ (fun q : Nat => s.heap.size ≤ q) b := Nat.not_le.mpr hbl
  have hin : ∀ k : Int32, 0 < k → k ≤ 4 → vp_in (x3 + k) L := om_hin hx3 hj hL
  obtain ⟨rv, M1, M2, hc1, hc2, hI⟩ := hok (xs (x3 + 1).toNatClampNeg) (xs (x3 + 2).toNatClampNeg) (xs (x3 + 3).toNatClampNeg)
  refine lv_aload_n hx hb dL_781 rfl (lv_at hl 1 rfl) ?_
  refine lv_aload_n hx hb dL_782 rfl (lv_at hl 0 rfl) ?_
  refine lv_iload_n hx hb dL_783 rfl (lv_at hl 3 rfl) ?_
  refine lv_iconst (v := 1) hx hb dL_784 (by decide) ?_
  refine lv_iadd hx hb dL_785 ?_
  refine va_sld hx hb hX hbl hbA hR.2.2 (hin 1 (by decide) (by decide)) dL_786 ?_
  refine lv_aload_n hx hb dL_787 rfl (lv_at hl 0 rfl) ?_
  refine lv_iload_n hx hb dL_788 rfl (lv_at hl 3 rfl) ?_
  refine lv_iconst (v := 2) hx hb dL_789 (by decide) ?_
  refine lv_iadd hx hb dL_790 ?_
  refine va_sld hx hb hX hbl hbA hR.2.2 (hin 2 (by decide) (by decide)) dL_791 ?_
  refine lv_aload_n hx hb dL_792 rfl (lv_at hl 0 rfl) ?_
  refine lv_iload_n hx hb dL_793 rfl (lv_at hl 3 rfl) ?_
  refine lv_iconst (v := 3) hx hb dL_794 (by decide) ?_
  refine lv_iadd hx hb dL_795 ?_
  refine va_sld hx hb hX hbl hbA hR.2.2 (hin 3 (by decide) (by decide)) dL_796 ?_
  refine om_callV (ci := 6) (a := 0) (k := 109) (w := 50) (t := [om_i (xs (x3 + 1).toNatClampNeg), om_i (xs (x3 + 2).toNatClampNeg), om_i (xs (x3 + 3).toNatClampNeg)]) (r := []) (v := some (om_i rv)) hx hb hml hown htb hK hN hS0 hA ⟨Nat.le_of_ble_eq_true rfl, Nat.le_of_ble_eq_true rfl⟩ (d := 60) (Nat.le_of_ble_eq_true rfl) (Nat.le_of_ble_eq_true rfl) (om_met l D cA ad 60) rfl rfl rfl (Or.inl (by decide)) (by decide +kernel) dL_797 rfl rfl rfl (om_C_breaker_ok om_F 60 (Nat.le_of_ble_eq_true rfl) hc1) hl.1 hR (fun H locs hR => ?_)
  change W p l e room_1 s m #[Value.ref b] below meth c H locs 100 4000 (lw_Z below #[Value.ref b] s) (F0 m 800 ls [.int rv])
  refine lv_aload_n hx hb dL_800 rfl (lv_at hl 2 rfl) ?_
  refine lv_aload_n hx hb dL_801 rfl (lv_at hl 0 rfl) ?_
  refine lv_iload_n hx hb dL_802 rfl (lv_at hl 3 rfl) ?_
  refine lv_iconst (v := 1) hx hb dL_803 (by decide) ?_
  refine lv_iadd hx hb dL_804 ?_
  refine va_sld hx hb hX hbl hbA hR.2.2 (hin 1 (by decide) (by decide)) dL_805 ?_
  refine lv_aload_n hx hb dL_806 rfl (lv_at hl 0 rfl) ?_
  refine lv_iload_n hx hb dL_807 rfl (lv_at hl 3 rfl) ?_
  refine lv_iconst (v := 2) hx hb dL_808 (by decide) ?_
  refine lv_iadd hx hb dL_809 ?_
  refine va_sld hx hb hX hbl hbA hR.2.2 (hin 2 (by decide) (by decide)) dL_810 ?_
  refine lv_aload_n hx hb dL_811 rfl (lv_at hl 0 rfl) ?_
  refine lv_iload_n hx hb dL_812 rfl (lv_at hl 3 rfl) ?_
  refine lv_iconst (v := 3) hx hb dL_813 (by decide) ?_
  refine lv_iadd hx hb dL_814 ?_
  refine va_sld hx hb hX hbl hbA hR.2.2 (hin 3 (by decide) (by decide)) dL_815 ?_
  refine om_callV (ci := 7) (a := 46) (k := 168) (w := 139) (t := [om_i (xs (x3 + 1).toNatClampNeg), om_i (xs (x3 + 2).toNatClampNeg), om_i (xs (x3 + 3).toNatClampNeg)]) (r := [om_i rv]) (v := some (om_i rv)) hx hb hml hown htb hK hN hS0 hA ⟨Nat.le_of_ble_eq_true rfl, Nat.le_of_ble_eq_true rfl⟩ (d := 60) (Nat.le_of_ble_eq_true rfl) (Nat.le_of_ble_eq_true rfl) (om_met l D cA ad 60) rfl rfl rfl (Or.inl (by decide)) (by decide +kernel) dL_816 rfl rfl rfl (om_D_breaker_ok om_F 60 (Nat.le_of_ble_eq_true rfl) hc2) hl.1 hR (fun H locs hR => ?_)
  change W p l e room_1 s m #[Value.ref b] below meth c H locs 100 4000 (lw_Z below #[Value.ref b] s) (F0 m 819 ls [.int rv, .int rv])
  exact lv_icmp_eq (tgt := 1031) hx hb dL_819 (by decide) (fun _ => hback M2 H locs ls hI hR hl) (fun q => absurd rfl q)
set_option maxHeartbeats 4000000 in
set_option maxRecDepth 100000 in
theorem om_lc20 (X : om_LX D cA ad p s m meth c b L xs) (hL : L ≤ 2560) {M : om_M} (hok : om_ok20 Inv M) {x3 : Int32} {j : Nat} (hx3 : x3 = nI j) (hj : j + 5 ≤ L) {H : Heap} {locs : List Loc} {ls : Array Slot} (hR : om_Rep D cA ad (fun q => s.heap.size ≤ q) s.heap M H locs) (hl : lv_has ls 4 [(0, .ref b), (1, .ref (ad 0)), (2, .ref (ad 46)), (3, .int x3)]) (hback : ∀ (M : om_M) (H : Heap) (locs : List Loc) (ls : Array Slot), Inv M → om_Rep D cA ad (fun q => s.heap.size ≤ q) s.heap M H locs → lv_has ls 4 [(0, .ref b), (1, .ref (ad 0)), (2, .ref (ad 46)), (3, .int x3)] → W p l e room_1 s m #[Value.ref b] below meth c H locs 100 4000 (lw_Z below #[Value.ref b] s) (F0 m 1031 ls [])) : W p l e room_1 s m #[Value.ref b] below meth c H locs 100 4000 (lw_Z below #[Value.ref b] s) (F0 m 824 ls []) := by
  obtain ⟨⟨hx, hb, hr, hml, hown, hts, hX, hbl, hlocks, hgv⟩, hK, hN, hS0⟩ := X
  have htb : ∀ w ∈ om_tb, w.before #[Value.ref b] s = true := fun w hw => hts w (om_tb_in w hw)
  have hown : s.vm.findClass (om_cn 12) = some m.cls := hown
  have hA : ∀ q : Nat, s.heap.size ≤ q → (fun q : Nat => s.heap.size ≤ q) q := fun _ h => h
  have hbA : ¬ (fun q : Nat => s.heap.size ≤ q) b := Nat.not_le.mpr hbl
  have hin : ∀ k : Int32, 0 < k → k ≤ 4 → vp_in (x3 + k) L := om_hin hx3 hj hL
  obtain ⟨rv, M1, M2, hc1, hc2, hI⟩ := hok (xs (x3 + 1).toNatClampNeg) (xs (x3 + 2).toNatClampNeg) (xs (x3 + 3).toNatClampNeg)
  refine lv_aload_n hx hb dL_824 rfl (lv_at hl 1 rfl) ?_
  refine lv_aload_n hx hb dL_825 rfl (lv_at hl 0 rfl) ?_
  refine lv_iload_n hx hb dL_826 rfl (lv_at hl 3 rfl) ?_
  refine lv_iconst (v := 1) hx hb dL_827 (by decide) ?_
  refine lv_iadd hx hb dL_828 ?_
  refine va_sld hx hb hX hbl hbA hR.2.2 (hin 1 (by decide) (by decide)) dL_829 ?_
  refine lv_aload_n hx hb dL_830 rfl (lv_at hl 0 rfl) ?_
  refine lv_iload_n hx hb dL_831 rfl (lv_at hl 3 rfl) ?_
  refine lv_iconst (v := 2) hx hb dL_832 (by decide) ?_
  refine lv_iadd hx hb dL_833 ?_
  refine va_sld hx hb hX hbl hbA hR.2.2 (hin 2 (by decide) (by decide)) dL_834 ?_
  refine lv_aload_n hx hb dL_835 rfl (lv_at hl 0 rfl) ?_
  refine lv_iload_n hx hb dL_836 rfl (lv_at hl 3 rfl) ?_
  refine lv_iconst (v := 3) hx hb dL_837 (by decide) ?_
  refine lv_iadd hx hb dL_838 ?_
  refine va_sld hx hb hX hbl hbA hR.2.2 (hin 3 (by decide) (by decide)) dL_839 ?_
  refine om_callV (ci := 6) (a := 0) (k := 110) (w := 54) (t := [om_i (xs (x3 + 1).toNatClampNeg), om_i (xs (x3 + 2).toNatClampNeg), om_i (xs (x3 + 3).toNatClampNeg)]) (r := []) (v := some (om_i rv)) hx hb hml hown htb hK hN hS0 hA ⟨Nat.le_of_ble_eq_true rfl, Nat.le_of_ble_eq_true rfl⟩ (d := 60) (Nat.le_of_ble_eq_true rfl) (Nat.le_of_ble_eq_true rfl) (om_met l D cA ad 60) rfl rfl rfl (Or.inl (by decide)) (by decide +kernel) dL_840 rfl rfl rfl (om_C_worth_ok om_F 60 (Nat.le_of_ble_eq_true rfl) hc1) hl.1 hR (fun H locs hR => ?_)
  change W p l e room_1 s m #[Value.ref b] below meth c H locs 100 4000 (lw_Z below #[Value.ref b] s) (F0 m 843 ls [.int rv])
  refine lv_aload_n hx hb dL_843 rfl (lv_at hl 2 rfl) ?_
  refine lv_aload_n hx hb dL_844 rfl (lv_at hl 0 rfl) ?_
  refine lv_iload_n hx hb dL_845 rfl (lv_at hl 3 rfl) ?_
  refine lv_iconst (v := 1) hx hb dL_846 (by decide) ?_
  refine lv_iadd hx hb dL_847 ?_
  refine va_sld hx hb hX hbl hbA hR.2.2 (hin 1 (by decide) (by decide)) dL_848 ?_
  refine lv_aload_n hx hb dL_849 rfl (lv_at hl 0 rfl) ?_
  refine lv_iload_n hx hb dL_850 rfl (lv_at hl 3 rfl) ?_
  refine lv_iconst (v := 2) hx hb dL_851 (by decide) ?_
  refine lv_iadd hx hb dL_852 ?_
  refine va_sld hx hb hX hbl hbA hR.2.2 (hin 2 (by decide) (by decide)) dL_853 ?_
  refine lv_aload_n hx hb dL_854 rfl (lv_at hl 0 rfl) ?_
  refine lv_iload_n hx hb dL_855 rfl (lv_at hl 3 rfl) ?_
  refine lv_iconst (v := 3) hx hb dL_856 (by decide) ?_
  refine lv_iadd hx hb dL_857 ?_
  refine va_sld hx hb hX hbl hbA hR.2.2 (hin 3 (by decide) (by decide)) dL_858 ?_
  refine om_callV (ci := 7) (a := 46) (k := 171) (w := 143) (t := [om_i (xs (x3 + 1).toNatClampNeg), om_i (xs (x3 + 2).toNatClampNeg), om_i (xs (x3 + 3).toNatClampNeg)]) (r := [om_i rv]) (v := some (om_i rv)) hx hb hml hown htb hK hN hS0 hA ⟨Nat.le_of_ble_eq_true rfl, Nat.le_of_ble_eq_true rfl⟩ (d := 60) (Nat.le_of_ble_eq_true rfl) (Nat.le_of_ble_eq_true rfl) (om_met l D cA ad 60) rfl rfl rfl (Or.inl (by decide)) (by decide +kernel) dL_859 rfl rfl rfl (om_D_worth_ok om_F 60 (Nat.le_of_ble_eq_true rfl) hc2) hl.1 hR (fun H locs hR => ?_)
  change W p l e room_1 s m #[Value.ref b] below meth c H locs 100 4000 (lw_Z below #[Value.ref b] s) (F0 m 862 ls [.int rv, .int rv])
  exact lv_icmp_eq (tgt := 1031) hx hb dL_862 (by decide) (fun _ => hback M2 H locs ls hI hR hl) (fun q => absurd rfl q)
set_option maxHeartbeats 4000000 in
set_option maxRecDepth 100000 in
theorem om_lc21 (X : om_LX D cA ad p s m meth c b L xs) (hL : L ≤ 2560) {M : om_M} (hok : om_ok21 Inv M) {x3 : Int32} {j : Nat} (hx3 : x3 = nI j) (hj : j + 5 ≤ L) {H : Heap} {locs : List Loc} {ls : Array Slot} (hR : om_Rep D cA ad (fun q => s.heap.size ≤ q) s.heap M H locs) (hl : lv_has ls 4 [(0, .ref b), (1, .ref (ad 0)), (2, .ref (ad 46)), (3, .int x3)]) (hback : ∀ (M : om_M) (H : Heap) (locs : List Loc) (ls : Array Slot), Inv M → om_Rep D cA ad (fun q => s.heap.size ≤ q) s.heap M H locs → lv_has ls 4 [(0, .ref b), (1, .ref (ad 0)), (2, .ref (ad 46)), (3, .int x3)] → W p l e room_1 s m #[Value.ref b] below meth c H locs 100 4000 (lw_Z below #[Value.ref b] s) (F0 m 1031 ls [])) : W p l e room_1 s m #[Value.ref b] below meth c H locs 100 4000 (lw_Z below #[Value.ref b] s) (F0 m 867 ls []) := by
  obtain ⟨⟨hx, hb, hr, hml, hown, hts, hX, hbl, hlocks, hgv⟩, hK, hN, hS0⟩ := X
  have htb : ∀ w ∈ om_tb, w.before #[Value.ref b] s = true := fun w hw => hts w (om_tb_in w hw)
  have hown : s.vm.findClass (om_cn 12) = some m.cls := hown
  have hA : ∀ q : Nat, s.heap.size ≤ q → (fun q : Nat => s.heap.size ≤ q) q := fun _ h => h
  have hbA : ¬ (fun q : Nat => s.heap.size ≤ q) b := Nat.not_le.mpr hbl
  have hin : ∀ k : Int32, 0 < k → k ≤ 4 → vp_in (x3 + k) L := om_hin hx3 hj hL
  obtain ⟨rv, M1, M2, hc1, hc2, hI⟩ := hok ((((xs (x3 + 1).toNatClampNeg).toInt64 <<< ((32 : Int32).toInt64 &&& 63)) ||| ((xs (x3 + 2).toNatClampNeg).toInt64 &&& 4294967295))) (xs (x3 + 3).toNatClampNeg)
  refine lv_aload_n hx hb dL_867 rfl (lv_at hl 1 rfl) ?_
  refine lv_aload_n hx hb dL_868 rfl (lv_at hl 0 rfl) ?_
  refine lv_iload_n hx hb dL_869 rfl (lv_at hl 3 rfl) ?_
  refine lv_iconst (v := 1) hx hb dL_870 (by decide) ?_
  refine lv_iadd hx hb dL_871 ?_
  refine va_sld hx hb hX hbl hbA hR.2.2 (hin 1 (by decide) (by decide)) dL_872 ?_
  refine lv_i2l hx hb dL_873 rfl ?_
  refine lv_bipush (v := 32) hx hb dL_874 (by decide) ?_
  refine lv_lshl hx hb dL_876 rfl ?_
  refine lv_aload_n hx hb dL_877 rfl (lv_at hl 0 rfl) ?_
  refine lv_iload_n hx hb dL_878 rfl (lv_at hl 3 rfl) ?_
  refine lv_iconst (v := 2) hx hb dL_879 (by decide) ?_
  refine lv_iadd hx hb dL_880 ?_
  refine va_sld hx hb hX hbl hbA hR.2.2 (hin 2 (by decide) (by decide)) dL_881 ?_
  refine lv_i2l hx hb dL_882 rfl ?_
  refine lv_ldc2 hx hb hown (htb _ (om_tb_cj (List.mem_of_getElem? (i := 12) rfl))) dL_883 ?_
  refine lv_land hx hb dL_886 ?_
  refine lv_lor hx hb dL_887 ?_
  refine lv_aload_n hx hb dL_888 rfl (lv_at hl 0 rfl) ?_
  refine lv_iload_n hx hb dL_889 rfl (lv_at hl 3 rfl) ?_
  refine lv_iconst (v := 3) hx hb dL_890 (by decide) ?_
  refine lv_iadd hx hb dL_891 ?_
  refine va_sld hx hb hX hbl hbA hR.2.2 (hin 3 (by decide) (by decide)) dL_892 ?_
  refine om_callV (ci := 6) (a := 0) (k := 111) (w := 55) (t := [om_l ((((xs (x3 + 1).toNatClampNeg).toInt64 <<< ((32 : Int32).toInt64 &&& 63)) ||| ((xs (x3 + 2).toNatClampNeg).toInt64 &&& 4294967295))), om_i (xs (x3 + 3).toNatClampNeg)]) (r := []) (v := some (om_i rv)) hx hb hml hown htb hK hN hS0 hA ⟨Nat.le_of_ble_eq_true rfl, Nat.le_of_ble_eq_true rfl⟩ (d := 60) (Nat.le_of_ble_eq_true rfl) (Nat.le_of_ble_eq_true rfl) (om_met l D cA ad 60) rfl rfl rfl (Or.inl (by decide)) (by decide +kernel) dL_893 rfl rfl rfl (om_C_write_ok om_F 60 (Nat.le_of_ble_eq_true rfl) hc1) hl.1 hR (fun H locs hR => ?_)
  change W p l e room_1 s m #[Value.ref b] below meth c H locs 100 4000 (lw_Z below #[Value.ref b] s) (F0 m 896 ls [.int rv])
  refine lv_aload_n hx hb dL_896 rfl (lv_at hl 2 rfl) ?_
  refine lv_aload_n hx hb dL_897 rfl (lv_at hl 0 rfl) ?_
  refine lv_iload_n hx hb dL_898 rfl (lv_at hl 3 rfl) ?_
  refine lv_iconst (v := 1) hx hb dL_899 (by decide) ?_
  refine lv_iadd hx hb dL_900 ?_
  refine va_sld hx hb hX hbl hbA hR.2.2 (hin 1 (by decide) (by decide)) dL_901 ?_
  refine lv_i2l hx hb dL_902 rfl ?_
  refine lv_bipush (v := 32) hx hb dL_903 (by decide) ?_
  refine lv_lshl hx hb dL_905 rfl ?_
  refine lv_aload_n hx hb dL_906 rfl (lv_at hl 0 rfl) ?_
  refine lv_iload_n hx hb dL_907 rfl (lv_at hl 3 rfl) ?_
  refine lv_iconst (v := 2) hx hb dL_908 (by decide) ?_
  refine lv_iadd hx hb dL_909 ?_
  refine va_sld hx hb hX hbl hbA hR.2.2 (hin 2 (by decide) (by decide)) dL_910 ?_
  refine lv_i2l hx hb dL_911 rfl ?_
  refine lv_ldc2 hx hb hown (htb _ (om_tb_cj (List.mem_of_getElem? (i := 12) rfl))) dL_912 ?_
  refine lv_land hx hb dL_915 ?_
  refine lv_lor hx hb dL_916 ?_
  refine lv_aload_n hx hb dL_917 rfl (lv_at hl 0 rfl) ?_
  refine lv_iload_n hx hb dL_918 rfl (lv_at hl 3 rfl) ?_
  refine lv_iconst (v := 3) hx hb dL_919 (by decide) ?_
  refine lv_iadd hx hb dL_920 ?_
  refine va_sld hx hb hX hbl hbA hR.2.2 (hin 3 (by decide) (by decide)) dL_921 ?_
  refine om_callV (ci := 7) (a := 46) (k := 172) (w := 146) (t := [om_l ((((xs (x3 + 1).toNatClampNeg).toInt64 <<< ((32 : Int32).toInt64 &&& 63)) ||| ((xs (x3 + 2).toNatClampNeg).toInt64 &&& 4294967295))), om_i (xs (x3 + 3).toNatClampNeg)]) (r := [om_i rv]) (v := some (om_i rv)) hx hb hml hown htb hK hN hS0 hA ⟨Nat.le_of_ble_eq_true rfl, Nat.le_of_ble_eq_true rfl⟩ (d := 60) (Nat.le_of_ble_eq_true rfl) (Nat.le_of_ble_eq_true rfl) (om_met l D cA ad 60) rfl rfl rfl (Or.inl (by decide)) (by decide +kernel) dL_922 rfl rfl rfl (om_D_write_ok om_F 60 (Nat.le_of_ble_eq_true rfl) hc2) hl.1 hR (fun H locs hR => ?_)
  change W p l e room_1 s m #[Value.ref b] below meth c H locs 100 4000 (lw_Z below #[Value.ref b] s) (F0 m 925 ls [.int rv, .int rv])
  exact lv_icmp_eq (tgt := 1031) hx hb dL_925 (by decide) (fun _ => hback M2 H locs ls hI hR hl) (fun q => absurd rfl q)
set_option maxHeartbeats 4000000 in
set_option maxRecDepth 100000 in
theorem om_lc22 (X : om_LX D cA ad p s m meth c b L xs) (hL : L ≤ 2560) {M : om_M} (hok : om_ok22 Inv M) {x3 : Int32} {j : Nat} (hx3 : x3 = nI j) (hj : j + 5 ≤ L) {H : Heap} {locs : List Loc} {ls : Array Slot} (hR : om_Rep D cA ad (fun q => s.heap.size ≤ q) s.heap M H locs) (hl : lv_has ls 4 [(0, .ref b), (1, .ref (ad 0)), (2, .ref (ad 46)), (3, .int x3)]) (hback : ∀ (M : om_M) (H : Heap) (locs : List Loc) (ls : Array Slot), Inv M → om_Rep D cA ad (fun q => s.heap.size ≤ q) s.heap M H locs → lv_has ls 4 [(0, .ref b), (1, .ref (ad 0)), (2, .ref (ad 46)), (3, .int x3)] → W p l e room_1 s m #[Value.ref b] below meth c H locs 100 4000 (lw_Z below #[Value.ref b] s) (F0 m 1031 ls [])) : W p l e room_1 s m #[Value.ref b] below meth c H locs 100 4000 (lw_Z below #[Value.ref b] s) (F0 m 930 ls []) := by
  obtain ⟨⟨hx, hb, hr, hml, hown, hts, hX, hbl, hlocks, hgv⟩, hK, hN, hS0⟩ := X
  have htb : ∀ w ∈ om_tb, w.before #[Value.ref b] s = true := fun w hw => hts w (om_tb_in w hw)
  have hown : s.vm.findClass (om_cn 12) = some m.cls := hown
  have hA : ∀ q : Nat, s.heap.size ≤ q → (fun q : Nat => s.heap.size ≤ q) q := fun _ h => h
  have hbA : ¬ (fun q : Nat => s.heap.size ≤ q) b := Nat.not_le.mpr hbl
  have hin : ∀ k : Int32, 0 < k → k ≤ 4 → vp_in (x3 + k) L := om_hin hx3 hj hL
  obtain ⟨rv, M1, M2, hc1, hc2, hI⟩ := hok
  refine lv_aload_n hx hb dL_930 rfl (lv_at hl 1 rfl) ?_
  refine om_callV (ci := 6) (a := 0) (k := 112) (w := 56) (t := []) (r := []) (v := some (om_i rv)) hx hb hml hown htb hK hN hS0 hA ⟨Nat.le_of_ble_eq_true rfl, Nat.le_of_ble_eq_true rfl⟩ (d := 60) (Nat.le_of_ble_eq_true rfl) (Nat.le_of_ble_eq_true rfl) (om_met l D cA ad 60) rfl rfl rfl (Or.inl (by decide)) (by decide +kernel) dL_931 rfl rfl rfl (om_C_erase_ok om_F 60 (Nat.le_of_ble_eq_true rfl) hc1) hl.1 hR (fun H locs hR => ?_)
  change W p l e room_1 s m #[Value.ref b] below meth c H locs 100 4000 (lw_Z below #[Value.ref b] s) (F0 m 934 ls [.int rv])
  refine lv_aload_n hx hb dL_934 rfl (lv_at hl 2 rfl) ?_
  refine om_callV (ci := 7) (a := 46) (k := 173) (w := 147) (t := []) (r := [om_i rv]) (v := some (om_i rv)) hx hb hml hown htb hK hN hS0 hA ⟨Nat.le_of_ble_eq_true rfl, Nat.le_of_ble_eq_true rfl⟩ (d := 60) (Nat.le_of_ble_eq_true rfl) (Nat.le_of_ble_eq_true rfl) (om_met l D cA ad 60) rfl rfl rfl (Or.inl (by decide)) (by decide +kernel) dL_935 rfl rfl rfl (om_D_erase_ok om_F 60 (Nat.le_of_ble_eq_true rfl) hc2) hl.1 hR (fun H locs hR => ?_)
  change W p l e room_1 s m #[Value.ref b] below meth c H locs 100 4000 (lw_Z below #[Value.ref b] s) (F0 m 938 ls [.int rv, .int rv])
  exact lv_icmp_eq (tgt := 1031) hx hb dL_938 (by decide) (fun _ => hback M2 H locs ls hI hR hl) (fun q => absurd rfl q)
set_option maxHeartbeats 4000000 in
set_option maxRecDepth 100000 in
theorem om_lc23 (X : om_LX D cA ad p s m meth c b L xs) (hL : L ≤ 2560) {M : om_M} (hok : om_ok23 Inv M) {x3 : Int32} {j : Nat} (hx3 : x3 = nI j) (hj : j + 5 ≤ L) {H : Heap} {locs : List Loc} {ls : Array Slot} (hR : om_Rep D cA ad (fun q => s.heap.size ≤ q) s.heap M H locs) (hl : lv_has ls 4 [(0, .ref b), (1, .ref (ad 0)), (2, .ref (ad 46)), (3, .int x3)]) (hback : ∀ (M : om_M) (H : Heap) (locs : List Loc) (ls : Array Slot), Inv M → om_Rep D cA ad (fun q => s.heap.size ≤ q) s.heap M H locs → lv_has ls 4 [(0, .ref b), (1, .ref (ad 0)), (2, .ref (ad 46)), (3, .int x3)] → W p l e room_1 s m #[Value.ref b] below meth c H locs 100 4000 (lw_Z below #[Value.ref b] s) (F0 m 1031 ls [])) : W p l e room_1 s m #[Value.ref b] below meth c H locs 100 4000 (lw_Z below #[Value.ref b] s) (F0 m 943 ls []) := by
  obtain ⟨⟨hx, hb, hr, hml, hown, hts, hX, hbl, hlocks, hgv⟩, hK, hN, hS0⟩ := X
  have htb : ∀ w ∈ om_tb, w.before #[Value.ref b] s = true := fun w hw => hts w (om_tb_in w hw)
  have hown : s.vm.findClass (om_cn 12) = some m.cls := hown
  have hA : ∀ q : Nat, s.heap.size ≤ q → (fun q : Nat => s.heap.size ≤ q) q := fun _ h => h
  have hbA : ¬ (fun q : Nat => s.heap.size ≤ q) b := Nat.not_le.mpr hbl
  have hin : ∀ k : Int32, 0 < k → k ≤ 4 → vp_in (x3 + k) L := om_hin hx3 hj hL
  obtain ⟨rv, M1, M2, hc1, hc2, hI⟩ := hok
  refine lv_aload_n hx hb dL_943 rfl (lv_at hl 1 rfl) ?_
  refine om_callV (ci := 6) (a := 0) (k := 113) (w := 57) (t := []) (r := []) (v := some (om_i rv)) hx hb hml hown htb hK hN hS0 hA ⟨Nat.le_of_ble_eq_true rfl, Nat.le_of_ble_eq_true rfl⟩ (d := 60) (Nat.le_of_ble_eq_true rfl) (Nat.le_of_ble_eq_true rfl) (om_met l D cA ad 60) rfl rfl rfl (Or.inl (by decide)) (by decide +kernel) dL_944 rfl rfl rfl (om_C_fault_ok om_F 60 (Nat.le_of_ble_eq_true rfl) hc1) hl.1 hR (fun H locs hR => ?_)
  change W p l e room_1 s m #[Value.ref b] below meth c H locs 100 4000 (lw_Z below #[Value.ref b] s) (F0 m 947 ls [.int rv])
  refine lv_aload_n hx hb dL_947 rfl (lv_at hl 2 rfl) ?_
  refine om_callV (ci := 7) (a := 46) (k := 189) (w := 148) (t := []) (r := [om_i rv]) (v := some (om_i rv)) hx hb hml hown htb hK hN hS0 hA ⟨Nat.le_of_ble_eq_true rfl, Nat.le_of_ble_eq_true rfl⟩ (d := 60) (Nat.le_of_ble_eq_true rfl) (Nat.le_of_ble_eq_true rfl) (om_met l D cA ad 60) rfl rfl rfl (Or.inl (by decide)) (by decide +kernel) dL_948 rfl rfl rfl (om_D_fault_ok om_F 60 (Nat.le_of_ble_eq_true rfl) hc2) hl.1 hR (fun H locs hR => ?_)
  change W p l e room_1 s m #[Value.ref b] below meth c H locs 100 4000 (lw_Z below #[Value.ref b] s) (F0 m 951 ls [.int rv, .int rv])
  exact lv_icmp_eq (tgt := 1031) hx hb dL_951 (by decide) (fun _ => hback M2 H locs ls hI hR hl) (fun q => absurd rfl q)
set_option maxHeartbeats 4000000 in
set_option maxRecDepth 100000 in
theorem om_lc24 (X : om_LX D cA ad p s m meth c b L xs) (hL : L ≤ 2560) {M : om_M} (hok : om_ok24 Inv M) {x3 : Int32} {j : Nat} (hx3 : x3 = nI j) (hj : j + 5 ≤ L) {H : Heap} {locs : List Loc} {ls : Array Slot} (hR : om_Rep D cA ad (fun q => s.heap.size ≤ q) s.heap M H locs) (hl : lv_has ls 4 [(0, .ref b), (1, .ref (ad 0)), (2, .ref (ad 46)), (3, .int x3)]) (hback : ∀ (M : om_M) (H : Heap) (locs : List Loc) (ls : Array Slot), Inv M → om_Rep D cA ad (fun q => s.heap.size ≤ q) s.heap M H locs → lv_has ls 4 [(0, .ref b), (1, .ref (ad 0)), (2, .ref (ad 46)), (3, .int x3)] → W p l e room_1 s m #[Value.ref b] below meth c H locs 100 4000 (lw_Z below #[Value.ref b] s) (F0 m 1031 ls [])) : W p l e room_1 s m #[Value.ref b] below meth c H locs 100 4000 (lw_Z below #[Value.ref b] s) (F0 m 956 ls []) := by
  obtain ⟨⟨hx, hb, hr, hml, hown, hts, hX, hbl, hlocks, hgv⟩, hK, hN, hS0⟩ := X
  have htb : ∀ w ∈ om_tb, w.before #[Value.ref b] s = true := fun w hw => hts w (om_tb_in w hw)
  have hown : s.vm.findClass (om_cn 12) = some m.cls := hown
  have hA : ∀ q : Nat, s.heap.size ≤ q → (fun q : Nat => s.heap.size ≤ q) q := fun _ h => h
  have hbA : ¬ (fun q : Nat => s.heap.size ≤ q) b := Nat.not_le.mpr hbl
  have hin : ∀ k : Int32, 0 < k → k ≤ 4 → vp_in (x3 + k) L := om_hin hx3 hj hL
  obtain ⟨rv, M1, M2, hc1, hc2, hI⟩ := hok
  refine lv_aload_n hx hb dL_956 rfl (lv_at hl 1 rfl) ?_
  refine om_callV (ci := 6) (a := 0) (k := 114) (w := 84) (t := []) (r := []) (v := some (om_i rv)) hx hb hml hown htb hK hN hS0 hA ⟨Nat.le_of_ble_eq_true rfl, Nat.le_of_ble_eq_true rfl⟩ (d := 60) (Nat.le_of_ble_eq_true rfl) (Nat.le_of_ble_eq_true rfl) (om_met l D cA ad 60) rfl rfl rfl (Or.inl (by decide)) (by decide +kernel) dL_957 rfl rfl rfl (om_C_ask_ok om_F 60 (Nat.le_of_ble_eq_true rfl) hc1) hl.1 hR (fun H locs hR => ?_)
  change W p l e room_1 s m #[Value.ref b] below meth c H locs 100 4000 (lw_Z below #[Value.ref b] s) (F0 m 960 ls [.int rv])
  refine lv_aload_n hx hb dL_960 rfl (lv_at hl 2 rfl) ?_
  refine om_callV (ci := 7) (a := 46) (k := 192) (w := 164) (t := []) (r := [om_i rv]) (v := some (om_i rv)) hx hb hml hown htb hK hN hS0 hA ⟨Nat.le_of_ble_eq_true rfl, Nat.le_of_ble_eq_true rfl⟩ (d := 60) (Nat.le_of_ble_eq_true rfl) (Nat.le_of_ble_eq_true rfl) (om_met l D cA ad 60) rfl rfl rfl (Or.inl (by decide)) (by decide +kernel) dL_961 rfl rfl rfl (om_D_ask_ok om_F 60 (Nat.le_of_ble_eq_true rfl) hc2) hl.1 hR (fun H locs hR => ?_)
  change W p l e room_1 s m #[Value.ref b] below meth c H locs 100 4000 (lw_Z below #[Value.ref b] s) (F0 m 964 ls [.int rv, .int rv])
  exact lv_icmp_eq (tgt := 1031) hx hb dL_964 (by decide) (fun _ => hback M2 H locs ls hI hR hl) (fun q => absurd rfl q)
set_option maxHeartbeats 4000000 in
set_option maxRecDepth 100000 in
theorem om_lc25 (X : om_LX D cA ad p s m meth c b L xs) (hL : L ≤ 2560) {M : om_M} (hok : om_ok25 Inv M) {x3 : Int32} {j : Nat} (hx3 : x3 = nI j) (hj : j + 5 ≤ L) {H : Heap} {locs : List Loc} {ls : Array Slot} (hR : om_Rep D cA ad (fun q => s.heap.size ≤ q) s.heap M H locs) (hl : lv_has ls 4 [(0, .ref b), (1, .ref (ad 0)), (2, .ref (ad 46)), (3, .int x3)]) (hback : ∀ (M : om_M) (H : Heap) (locs : List Loc) (ls : Array Slot), Inv M → om_Rep D cA ad (fun q => s.heap.size ≤ q) s.heap M H locs → lv_has ls 4 [(0, .ref b), (1, .ref (ad 0)), (2, .ref (ad 46)), (3, .int x3)] → W p l e room_1 s m #[Value.ref b] below meth c H locs 100 4000 (lw_Z below #[Value.ref b] s) (F0 m 1031 ls [])) : W p l e room_1 s m #[Value.ref b] below meth c H locs 100 4000 (lw_Z below #[Value.ref b] s) (F0 m 969 ls []) := by
  obtain ⟨⟨hx, hb, hr, hml, hown, hts, hX, hbl, hlocks, hgv⟩, hK, hN, hS0⟩ := X
  have htb : ∀ w ∈ om_tb, w.before #[Value.ref b] s = true := fun w hw => hts w (om_tb_in w hw)
  have hown : s.vm.findClass (om_cn 12) = some m.cls := hown
  have hA : ∀ q : Nat, s.heap.size ≤ q → (fun q : Nat => s.heap.size ≤ q) q := fun _ h => h
  have hbA : ¬ (fun q : Nat => s.heap.size ≤ q) b := Nat.not_le.mpr hbl
  have hin : ∀ k : Int32, 0 < k → k ≤ 4 → vp_in (x3 + k) L := om_hin hx3 hj hL
  obtain ⟨rv, M1, M2, hc1, hc2, hI⟩ := hok
  refine lv_aload_n hx hb dL_969 rfl (lv_at hl 1 rfl) ?_
  refine om_callV (ci := 6) (a := 0) (k := 115) (w := 87) (t := []) (r := []) (v := some (om_i rv)) hx hb hml hown htb hK hN hS0 hA ⟨Nat.le_of_ble_eq_true rfl, Nat.le_of_ble_eq_true rfl⟩ (d := 60) (Nat.le_of_ble_eq_true rfl) (Nat.le_of_ble_eq_true rfl) (om_met l D cA ad 60) rfl rfl rfl (Or.inl (by decide)) (by decide +kernel) dL_970 rfl rfl rfl (om_C_holds_ok om_F 60 (Nat.le_of_ble_eq_true rfl) hc1) hl.1 hR (fun H locs hR => ?_)
  change W p l e room_1 s m #[Value.ref b] below meth c H locs 100 4000 (lw_Z below #[Value.ref b] s) (F0 m 973 ls [.int rv])
  refine lv_aload_n hx hb dL_973 rfl (lv_at hl 2 rfl) ?_
  refine om_callV (ci := 7) (a := 46) (k := 193) (w := 168) (t := []) (r := [om_i rv]) (v := some (om_i rv)) hx hb hml hown htb hK hN hS0 hA ⟨Nat.le_of_ble_eq_true rfl, Nat.le_of_ble_eq_true rfl⟩ (d := 60) (Nat.le_of_ble_eq_true rfl) (Nat.le_of_ble_eq_true rfl) (om_met l D cA ad 60) rfl rfl rfl (Or.inl (by decide)) (by decide +kernel) dL_974 rfl rfl rfl (om_D_holds_ok om_F 60 (Nat.le_of_ble_eq_true rfl) hc2) hl.1 hR (fun H locs hR => ?_)
  change W p l e room_1 s m #[Value.ref b] below meth c H locs 100 4000 (lw_Z below #[Value.ref b] s) (F0 m 977 ls [.int rv, .int rv])
  exact lv_icmp_eq (tgt := 1031) hx hb dL_977 (by decide) (fun _ => hback M2 H locs ls hI hR hl) (fun q => absurd rfl q)
set_option maxHeartbeats 4000000 in
set_option maxRecDepth 100000 in
theorem om_lc26 (X : om_LX D cA ad p s m meth c b L xs) (hL : L ≤ 2560) {M : om_M} (hok : om_ok26 Inv M) {x3 : Int32} {j : Nat} (hx3 : x3 = nI j) (hj : j + 5 ≤ L) {H : Heap} {locs : List Loc} {ls : Array Slot} (hR : om_Rep D cA ad (fun q => s.heap.size ≤ q) s.heap M H locs) (hl : lv_has ls 4 [(0, .ref b), (1, .ref (ad 0)), (2, .ref (ad 46)), (3, .int x3)]) (hback : ∀ (M : om_M) (H : Heap) (locs : List Loc) (ls : Array Slot), Inv M → om_Rep D cA ad (fun q => s.heap.size ≤ q) s.heap M H locs → lv_has ls 4 [(0, .ref b), (1, .ref (ad 0)), (2, .ref (ad 46)), (3, .int x3)] → W p l e room_1 s m #[Value.ref b] below meth c H locs 100 4000 (lw_Z below #[Value.ref b] s) (F0 m 1031 ls [])) : W p l e room_1 s m #[Value.ref b] below meth c H locs 100 4000 (lw_Z below #[Value.ref b] s) (F0 m 982 ls []) := by
  obtain ⟨⟨hx, hb, hr, hml, hown, hts, hX, hbl, hlocks, hgv⟩, hK, hN, hS0⟩ := X
  have htb : ∀ w ∈ om_tb, w.before #[Value.ref b] s = true := fun w hw => hts w (om_tb_in w hw)
  have hown : s.vm.findClass (om_cn 12) = some m.cls := hown
  have hA : ∀ q : Nat, s.heap.size ≤ q → (fun q : Nat => s.heap.size ≤ q) q := fun _ h => h
  have hbA : ¬ (fun q : Nat => s.heap.size ≤ q) b := Nat.not_le.mpr hbl
  have hin : ∀ k : Int32, 0 < k → k ≤ 4 → vp_in (x3 + k) L := om_hin hx3 hj hL
  obtain ⟨rv, M1, M2, hc1, hc2, hI⟩ := hok
  refine lv_aload_n hx hb dL_982 rfl (lv_at hl 1 rfl) ?_
  refine om_callV (ci := 6) (a := 0) (k := 116) (w := 88) (t := []) (r := []) (v := some (om_i rv)) hx hb hml hown htb hK hN hS0 hA ⟨Nat.le_of_ble_eq_true rfl, Nat.le_of_ble_eq_true rfl⟩ (d := 60) (Nat.le_of_ble_eq_true rfl) (Nat.le_of_ble_eq_true rfl) (om_met l D cA ad 60) rfl rfl rfl (Or.inl (by decide)) (by decide +kernel) dL_983 rfl rfl rfl (om_C_turned_ok om_F 60 (Nat.le_of_ble_eq_true rfl) hc1) hl.1 hR (fun H locs hR => ?_)
  change W p l e room_1 s m #[Value.ref b] below meth c H locs 100 4000 (lw_Z below #[Value.ref b] s) (F0 m 986 ls [.int rv])
  refine lv_aload_n hx hb dL_986 rfl (lv_at hl 2 rfl) ?_
  refine om_callV (ci := 7) (a := 46) (k := 194) (w := 169) (t := []) (r := [om_i rv]) (v := some (om_i rv)) hx hb hml hown htb hK hN hS0 hA ⟨Nat.le_of_ble_eq_true rfl, Nat.le_of_ble_eq_true rfl⟩ (d := 60) (Nat.le_of_ble_eq_true rfl) (Nat.le_of_ble_eq_true rfl) (om_met l D cA ad 60) rfl rfl rfl (Or.inl (by decide)) (by decide +kernel) dL_987 rfl rfl rfl (om_D_turned_ok om_F 60 (Nat.le_of_ble_eq_true rfl) hc2) hl.1 hR (fun H locs hR => ?_)
  change W p l e room_1 s m #[Value.ref b] below meth c H locs 100 4000 (lw_Z below #[Value.ref b] s) (F0 m 990 ls [.int rv, .int rv])
  exact lv_icmp_eq (tgt := 1031) hx hb dL_990 (by decide) (fun _ => hback M2 H locs ls hI hR hl) (fun q => absurd rfl q)
set_option maxHeartbeats 4000000 in
set_option maxRecDepth 100000 in
theorem om_lc27 (X : om_LX D cA ad p s m meth c b L xs) (hL : L ≤ 2560) {M : om_M} (hok : om_ok27 Inv M) {x3 : Int32} {j : Nat} (hx3 : x3 = nI j) (hj : j + 5 ≤ L) {H : Heap} {locs : List Loc} {ls : Array Slot} (hR : om_Rep D cA ad (fun q => s.heap.size ≤ q) s.heap M H locs) (hl : lv_has ls 4 [(0, .ref b), (1, .ref (ad 0)), (2, .ref (ad 46)), (3, .int x3)]) (hback : ∀ (M : om_M) (H : Heap) (locs : List Loc) (ls : Array Slot), Inv M → om_Rep D cA ad (fun q => s.heap.size ≤ q) s.heap M H locs → lv_has ls 4 [(0, .ref b), (1, .ref (ad 0)), (2, .ref (ad 46)), (3, .int x3)] → W p l e room_1 s m #[Value.ref b] below meth c H locs 100 4000 (lw_Z below #[Value.ref b] s) (F0 m 1031 ls [])) : W p l e room_1 s m #[Value.ref b] below meth c H locs 100 4000 (lw_Z below #[Value.ref b] s) (F0 m 995 ls []) := by
  obtain ⟨⟨hx, hb, hr, hml, hown, hts, hX, hbl, hlocks, hgv⟩, hK, hN, hS0⟩ := X
  have htb : ∀ w ∈ om_tb, w.before #[Value.ref b] s = true := fun w hw => hts w (om_tb_in w hw)
  have hown : s.vm.findClass (om_cn 12) = some m.cls := hown
  have hA : ∀ q : Nat, s.heap.size ≤ q → (fun q : Nat => s.heap.size ≤ q) q := fun _ h => h
  have hbA : ¬ (fun q : Nat => s.heap.size ≤ q) b := Nat.not_le.mpr hbl
  have hin : ∀ k : Int32, 0 < k → k ≤ 4 → vp_in (x3 + k) L := om_hin hx3 hj hL
  obtain ⟨rv, M1, M2, hc1, hc2, hI⟩ := hok
  refine lv_aload_n hx hb dL_995 rfl (lv_at hl 1 rfl) ?_
  refine om_callV (ci := 6) (a := 0) (k := 117) (w := 89) (t := []) (r := []) (v := some (om_i rv)) hx hb hml hown htb hK hN hS0 hA ⟨Nat.le_of_ble_eq_true rfl, Nat.le_of_ble_eq_true rfl⟩ (d := 60) (Nat.le_of_ble_eq_true rfl) (Nat.le_of_ble_eq_true rfl) (om_met l D cA ad 60) rfl rfl rfl (Or.inl (by decide)) (by decide +kernel) dL_996 rfl rfl rfl (om_C_bought_ok om_F 60 (Nat.le_of_ble_eq_true rfl) hc1) hl.1 hR (fun H locs hR => ?_)
  change W p l e room_1 s m #[Value.ref b] below meth c H locs 100 4000 (lw_Z below #[Value.ref b] s) (F0 m 999 ls [.int rv])
  refine lv_aload_n hx hb dL_999 rfl (lv_at hl 2 rfl) ?_
  refine om_callV (ci := 7) (a := 46) (k := 196) (w := 170) (t := []) (r := [om_i rv]) (v := some (om_i rv)) hx hb hml hown htb hK hN hS0 hA ⟨Nat.le_of_ble_eq_true rfl, Nat.le_of_ble_eq_true rfl⟩ (d := 60) (Nat.le_of_ble_eq_true rfl) (Nat.le_of_ble_eq_true rfl) (om_met l D cA ad 60) rfl rfl rfl (Or.inl (by decide)) (by decide +kernel) dL_1000 rfl rfl rfl (om_D_bought_ok om_F 60 (Nat.le_of_ble_eq_true rfl) hc2) hl.1 hR (fun H locs hR => ?_)
  change W p l e room_1 s m #[Value.ref b] below meth c H locs 100 4000 (lw_Z below #[Value.ref b] s) (F0 m 1003 ls [.int rv, .int rv])
  exact lv_icmp_eq (tgt := 1031) hx hb dL_1003 (by decide) (fun _ => hback M2 H locs ls hI hR hl) (fun q => absurd rfl q)
set_option maxHeartbeats 4000000 in
set_option maxRecDepth 100000 in
theorem om_lc28 (X : om_LX D cA ad p s m meth c b L xs) (hL : L ≤ 2560) {M : om_M} (hok : om_ok28 Inv M) {x3 : Int32} {j : Nat} (hx3 : x3 = nI j) (hj : j + 5 ≤ L) {H : Heap} {locs : List Loc} {ls : Array Slot} (hR : om_Rep D cA ad (fun q => s.heap.size ≤ q) s.heap M H locs) (hl : lv_has ls 4 [(0, .ref b), (1, .ref (ad 0)), (2, .ref (ad 46)), (3, .int x3)]) (hback : ∀ (M : om_M) (H : Heap) (locs : List Loc) (ls : Array Slot), Inv M → om_Rep D cA ad (fun q => s.heap.size ≤ q) s.heap M H locs → lv_has ls 4 [(0, .ref b), (1, .ref (ad 0)), (2, .ref (ad 46)), (3, .int x3)] → W p l e room_1 s m #[Value.ref b] below meth c H locs 100 4000 (lw_Z below #[Value.ref b] s) (F0 m 1031 ls [])) : W p l e room_1 s m #[Value.ref b] below meth c H locs 100 4000 (lw_Z below #[Value.ref b] s) (F0 m 1008 ls []) := by
  obtain ⟨⟨hx, hb, hr, hml, hown, hts, hX, hbl, hlocks, hgv⟩, hK, hN, hS0⟩ := X
  have htb : ∀ w ∈ om_tb, w.before #[Value.ref b] s = true := fun w hw => hts w (om_tb_in w hw)
  have hown : s.vm.findClass (om_cn 12) = some m.cls := hown
  have hA : ∀ q : Nat, s.heap.size ≤ q → (fun q : Nat => s.heap.size ≤ q) q := fun _ h => h
  have hbA : ¬ (fun q : Nat => s.heap.size ≤ q) b := Nat.not_le.mpr hbl
  have hin : ∀ k : Int32, 0 < k → k ≤ 4 → vp_in (x3 + k) L := om_hin hx3 hj hL
  obtain ⟨rv, M1, M2, hc1, hc2, hI⟩ := hok (xs (x3 + 1).toNatClampNeg)
  refine lv_aload_n hx hb dL_1008 rfl (lv_at hl 1 rfl) ?_
  refine lv_aload_n hx hb dL_1009 rfl (lv_at hl 0 rfl) ?_
  refine lv_iload_n hx hb dL_1010 rfl (lv_at hl 3 rfl) ?_
  refine lv_iconst (v := 1) hx hb dL_1011 (by decide) ?_
  refine lv_iadd hx hb dL_1012 ?_
  refine va_sld hx hb hX hbl hbA hR.2.2 (hin 1 (by decide) (by decide)) dL_1013 ?_
  refine om_callV (ci := 6) (a := 0) (k := 118) (w := 92) (t := [om_i (xs (x3 + 1).toNatClampNeg)]) (r := []) (v := some (om_i rv)) hx hb hml hown htb hK hN hS0 hA ⟨Nat.le_of_ble_eq_true rfl, Nat.le_of_ble_eq_true rfl⟩ (d := 60) (Nat.le_of_ble_eq_true rfl) (Nat.le_of_ble_eq_true rfl) (om_met l D cA ad 60) rfl rfl rfl (Or.inl (by decide)) (by decide +kernel) dL_1014 rfl rfl rfl (om_C_count_ok om_F 60 (Nat.le_of_ble_eq_true rfl) hc1) hl.1 hR (fun H locs hR => ?_)
  change W p l e room_1 s m #[Value.ref b] below meth c H locs 100 4000 (lw_Z below #[Value.ref b] s) (F0 m 1017 ls [.int rv])
  refine lv_aload_n hx hb dL_1017 rfl (lv_at hl 2 rfl) ?_
  refine lv_aload_n hx hb dL_1018 rfl (lv_at hl 0 rfl) ?_
  refine lv_iload_n hx hb dL_1019 rfl (lv_at hl 3 rfl) ?_
  refine lv_iconst (v := 1) hx hb dL_1020 (by decide) ?_
  refine lv_iadd hx hb dL_1021 ?_
  refine va_sld hx hb hX hbl hbA hR.2.2 (hin 1 (by decide) (by decide)) dL_1022 ?_
  refine om_callV (ci := 7) (a := 46) (k := 197) (w := 172) (t := [om_i (xs (x3 + 1).toNatClampNeg)]) (r := [om_i rv]) (v := some (om_i rv)) hx hb hml hown htb hK hN hS0 hA ⟨Nat.le_of_ble_eq_true rfl, Nat.le_of_ble_eq_true rfl⟩ (d := 60) (Nat.le_of_ble_eq_true rfl) (Nat.le_of_ble_eq_true rfl) (om_met l D cA ad 60) rfl rfl rfl (Or.inl (by decide)) (by decide +kernel) dL_1023 rfl rfl rfl (om_D_count_ok om_F 60 (Nat.le_of_ble_eq_true rfl) hc2) hl.1 hR (fun H locs hR => ?_)
  change W p l e room_1 s m #[Value.ref b] below meth c H locs 100 4000 (lw_Z below #[Value.ref b] s) (F0 m 1026 ls [.int rv, .int rv])
  exact lv_icmp_eq (tgt := 1031) hx hb dL_1026 (by decide) (fun _ => hback M2 H locs ls hI hR hl) (fun q => absurd rfl q)
set_option maxHeartbeats 4000000 in
set_option maxRecDepth 100000 in
/-- the law's loop -/
theorem om_law_loop (X : om_LX D cA ad p s m meth c b L xs) (hL : L ≤ 2560) (hOK : om_AllOK Inv) : ∀ (n j : Nat), L + 6 ≤ j + n → j ≤ L + 5 → ∀ (x3 : Int32), x3 = nI j → ∀ (M : om_M) (H : Heap) (locs : List Loc) (ls : Array Slot), Inv M → om_Rep D cA ad (fun q => s.heap.size ≤ q) s.heap M H locs → lv_has ls 4 [(0, .ref b), (1, .ref (ad 0)), (2, .ref (ad 46)), (3, .int x3)] → W p l e room_1 s m #[Value.ref b] below meth c H locs 100 4000 (lw_Z below #[Value.ref b] s) (F0 m 18 ls [])
  | 0, j, h1, h2, _, _, _, _, _, _, _, _, _ => absurd h1 (by omega)
  | n + 1, j, h1, h2, x3, hx3, M, H, locs, ls, hI, hR, hl => by
    obtain ⟨⟨hx, hb, hr, hml, hown, hts, hX, hbl, hlocks, hgv⟩, hK, hN, hS0⟩ := id X
    have hbA : ¬ (fun q : Nat => s.heap.size ≤ q) b := Nat.not_le.mpr hbl
    refine lv_iload_n hx hb dL_18 rfl (lv_at hl 3 rfl) ?_
    refine lv_aload_n hx hb dL_19 rfl (lv_at hl 0 rfl) ?_
    refine va_slen hx hb hX hbl hbA hR.2.2 dL_20 ?_
    refine lv_iconst (v := 5) hx hb dL_21 (by decide) ?_
    refine lv_isub hx hb dL_22 ?_
    refine lv_icmp_gt (tgt := 1037) hx hb dL_23 (by decide) (fun c_ => ?_) (fun c_ => ?_)
    · refine lv_iconst (v := 1) hx hb dL_1037 (by decide) ?_
      refine va_forget hR.2.2.2.2 ?_
      refine W.widen (k := 600000) (n := 7302250) (Nat.le_of_ble_eq_true rfl) (Nat.le_of_ble_eq_true rfl) ?_
      exact lw_ret hx hb hr hlocks dL_1038
    · have hj : j + 5 ≤ L := om_hj hx3 (by omega) hL c_
      have hback : ∀ (M : om_M) (H : Heap) (locs : List Loc) (ls : Array Slot), Inv M → om_Rep D cA ad (fun q => s.heap.size ≤ q) s.heap M H locs → lv_has ls 4 [(0, .ref b), (1, .ref (ad 0)), (2, .ref (ad 46)), (3, .int x3)] → W p l e room_1 s m #[Value.ref b] below meth c H locs 100 4000 (lw_Z below #[Value.ref b] s) (F0 m 1031 ls []) := by
        intro M H locs ls hI hR hl
        obtain ⟨y3, hy3⟩ : ∃ y : Int32, y = x3 + 5 := ⟨_, rfl⟩
        refine lv_iinc (v := y3) (lv' := [(3, .int y3), (0, .ref b), (1, .ref (ad 0)), (2, .ref (ad 46))]) hx hb dL_1031 hl (k := 3) rfl (by rw [hy3]; rfl) (by decide) rfl (fun ls hl => ?_)
        refine lv_goto (tgt := 18) hx hb dL_1034 (by decide) ?_
        exact om_law_loop X hL hOK n (j + 5) (by omega) (by omega) y3 (by rw [hy3, hx3, show (5 : Int32) = nI 5 from rfl, nI_add]) M H locs ls hI hR (lv_sub hl [1, 2, 3, 0] rfl)
      obtain ⟨o0, o1, o2, o3, o4, o5, o6, o7, o8, o9, o10, o11, o12, o13, o14, o15, o16, o17, o18, o19, o20, o21, o22, o23, o24, o25, o26, o27, o28⟩ := hOK M hI
      refine lv_aload_n hx hb dL_26 rfl (lv_at hl 0 rfl) ?_
      refine lv_iload_n hx hb dL_27 rfl (lv_at hl 3 rfl) ?_
      refine va_sld hx hb hX hbl hbA hR.2.2 (om_hin0 hx3 hj hL) dL_28 ?_
      refine lv_bipush (v := 31) hx hb dL_29 (by decide) ?_
      refine lv_iand hx hb dL_31 ?_
      generalize xs x3.toNatClampNeg &&& 31 = v
      by_cases h0 : v.toInt = 0
      · exact lv_tableIn (off := 132) (tgt := 164) hx hb dL_32 (by omega) (by omega) (by rw [h0]; rfl) (by decide) (om_lc0 X hL o0 hx3 hj hR hl hback)
      by_cases h1 : v.toInt = 1
      · exact lv_tableIn (off := 165) (tgt := 197) hx hb dL_32 (by omega) (by omega) (by rw [h1]; rfl) (by decide) (om_lc1 X hL o1 hx3 hj hR hl hback)
      by_cases h2 : v.toInt = 2
      · exact lv_tableIn (off := 208) (tgt := 240) hx hb dL_32 (by omega) (by omega) (by rw [h2]; rfl) (by decide) (om_lc2 X hL o2 hx3 hj hR hl hback)
      by_cases h3 : v.toInt = 3
      · exact lv_tableIn (off := 231) (tgt := 263) hx hb dL_32 (by omega) (by omega) (by rw [h3]; rfl) (by decide) (om_lc3 X hL o3 hx3 hj hR hl hback)
      by_cases h4 : v.toInt = 4
      · exact lv_tableIn (off := 264) (tgt := 296) hx hb dL_32 (by omega) (by omega) (by rw [h4]; rfl) (by decide) (om_lc4 X hL o4 hx3 hj hR hl hback)
      by_cases h5 : v.toInt = 5
      · exact lv_tableIn (off := 307) (tgt := 339) hx hb dL_32 (by omega) (by omega) (by rw [h5]; rfl) (by decide) (om_lc5 X hL o5 hx3 hj hR hl hback)
      by_cases h6 : v.toInt = 6
      · exact lv_tableIn (off := 340) (tgt := 372) hx hb dL_32 (by omega) (by omega) (by rw [h6]; rfl) (by decide) (om_lc6 X hL o6 hx3 hj hR hl hback)
      by_cases h7 : v.toInt = 7
      · exact lv_tableIn (off := 373) (tgt := 405) hx hb dL_32 (by omega) (by omega) (by rw [h7]; rfl) (by decide) (om_lc7 X hL o7 hx3 hj hR hl hback)
      by_cases h8 : v.toInt = 8
      · exact lv_tableIn (off := 416) (tgt := 448) hx hb dL_32 (by omega) (by omega) (by rw [h8]; rfl) (by decide) (om_lc8 X hL o8 hx3 hj hR hl hback)
      by_cases h9 : v.toInt = 9
      · exact lv_tableIn (off := 449) (tgt := 481) hx hb dL_32 (by omega) (by omega) (by rw [h9]; rfl) (by decide) (om_lc9 X hL o9 hx3 hj hR hl hback)
      by_cases h10 : v.toInt = 10
      · exact lv_tableIn (off := 482) (tgt := 514) hx hb dL_32 (by omega) (by omega) (by rw [h10]; rfl) (by decide) (om_lc10 X hL o10 hx3 hj hR hl hback)
      by_cases h11 : v.toInt = 11
      · exact lv_tableIn (off := 525) (tgt := 557) hx hb dL_32 (by omega) (by omega) (by rw [h11]; rfl) (by decide) (om_lc11 X hL o11 hx3 hj hR hl hback)
      by_cases h12 : v.toInt = 12
      · exact lv_tableIn (off := 538) (tgt := 570) hx hb dL_32 (by omega) (by omega) (by rw [h12]; rfl) (by decide) (om_lc12 X hL o12 hx3 hj hR hl hback)
      by_cases h13 : v.toInt = 13
      · exact lv_tableIn (off := 561) (tgt := 593) hx hb dL_32 (by omega) (by omega) (by rw [h13]; rfl) (by decide) (om_lc13 X hL o13 hx3 hj hR hl hback)
      by_cases h14 : v.toInt = 14
      · exact lv_tableIn (off := 594) (tgt := 626) hx hb dL_32 (by omega) (by omega) (by rw [h14]; rfl) (by decide) (om_lc14 X hL o14 hx3 hj hR hl hback)
      by_cases h15 : v.toInt = 15
      · exact lv_tableIn (off := 627) (tgt := 659) hx hb dL_32 (by omega) (by omega) (by rw [h15]; rfl) (by decide) (om_lc15 X hL o15 hx3 hj hR hl hback)
      by_cases h16 : v.toInt = 16
      · exact lv_tableIn (off := 680) (tgt := 712) hx hb dL_32 (by omega) (by omega) (by rw [h16]; rfl) (by decide) (om_lc16 X hL o16 hx3 hj hR hl hback)
      by_cases h17 : v.toInt = 17
      · exact lv_tableIn (off := 703) (tgt := 735) hx hb dL_32 (by omega) (by omega) (by rw [h17]; rfl) (by decide) (om_lc17 X hL o17 hx3 hj hR hl hback)
      by_cases h18 : v.toInt = 18
      · exact lv_tableIn (off := 726) (tgt := 758) hx hb dL_32 (by omega) (by omega) (by rw [h18]; rfl) (by decide) (om_lc18 X hL o18 hx3 hj hR hl hback)
      by_cases h19 : v.toInt = 19
      · exact lv_tableIn (off := 749) (tgt := 781) hx hb dL_32 (by omega) (by omega) (by rw [h19]; rfl) (by decide) (om_lc19 X hL o19 hx3 hj hR hl hback)
      by_cases h20 : v.toInt = 20
      · exact lv_tableIn (off := 792) (tgt := 824) hx hb dL_32 (by omega) (by omega) (by rw [h20]; rfl) (by decide) (om_lc20 X hL o20 hx3 hj hR hl hback)
      by_cases h21 : v.toInt = 21
      · exact lv_tableIn (off := 835) (tgt := 867) hx hb dL_32 (by omega) (by omega) (by rw [h21]; rfl) (by decide) (om_lc21 X hL o21 hx3 hj hR hl hback)
      by_cases h22 : v.toInt = 22
      · exact lv_tableIn (off := 898) (tgt := 930) hx hb dL_32 (by omega) (by omega) (by rw [h22]; rfl) (by decide) (om_lc22 X hL o22 hx3 hj hR hl hback)
      by_cases h23 : v.toInt = 23
      · exact lv_tableIn (off := 911) (tgt := 943) hx hb dL_32 (by omega) (by omega) (by rw [h23]; rfl) (by decide) (om_lc23 X hL o23 hx3 hj hR hl hback)
      by_cases h24 : v.toInt = 24
      · exact lv_tableIn (off := 924) (tgt := 956) hx hb dL_32 (by omega) (by omega) (by rw [h24]; rfl) (by decide) (om_lc24 X hL o24 hx3 hj hR hl hback)
      by_cases h25 : v.toInt = 25
      · exact lv_tableIn (off := 937) (tgt := 969) hx hb dL_32 (by omega) (by omega) (by rw [h25]; rfl) (by decide) (om_lc25 X hL o25 hx3 hj hR hl hback)
      by_cases h26 : v.toInt = 26
      · exact lv_tableIn (off := 950) (tgt := 982) hx hb dL_32 (by omega) (by omega) (by rw [h26]; rfl) (by decide) (om_lc26 X hL o26 hx3 hj hR hl hback)
      by_cases h27 : v.toInt = 27
      · exact lv_tableIn (off := 963) (tgt := 995) hx hb dL_32 (by omega) (by omega) (by rw [h27]; rfl) (by decide) (om_lc27 X hL o27 hx3 hj hR hl hback)
      by_cases h28 : v.toInt = 28
      · exact lv_tableIn (off := 976) (tgt := 1008) hx hb dL_32 (by omega) (by omega) (by rw [h28]; rfl) (by decide) (om_lc28 X hL o28 hx3 hj hR hl hback)
      · exact lv_tableOut (tgt := 1031) hx hb dL_32 (by omega) (by decide) (hback M H locs ls hI hR hl)
end LAW
