/-! the law: its rows -/
def R_law : String := "WildLevelsLaw"
def lw_P (b : Addr) (xs : List Int32) (args : Array Value) (s : State) : Prop := args = #[.ref b] ∧ s.IntsAt b xs ∧ xs.length ≤ 3072 ∧ (Jvm.Cond.and given_1 narrow_1).before args s = true
def lw_Q (_ : Array Value) (s : State) (o : Outcome) (t : State) : Prop := o = .returned (some (.int 1)) ∧ Framed s o t [] 600000 7302250
def lw_Z (below : List Frame) (a : Array Value) (s : State) : State → Prop := fun t => ∃ o, t.status = .running ∧ Ended t below o ∧ lw_Q a s o t
/-- the law's own end, with 1 on the stack, nothing written that was there before, its room as the claim has it -/
theorem lw_ret {p : Program} {l : Launch} {e : Env} {s : State} {m : MethodId} {below : List Frame} {meth : Method} {c : Code} {b : Nat} (hx : p.tables.exec = Jvm.exec) (hb : c.code = code) (hr : meth.sig.returnType = ret) (hlocks : meth.locks = false) {pc : Nat} {H : Heap} {ls : Array Slot} (hdg : decode code pc = .ok (.ireturn, 1)) : W p l e room_1 s m #[Value.ref b] below meth c H [] 600000 7302250 (lw_Z below #[Value.ref b] s) (F0 m pc ls [.int 1]) := by
  intro T hT X
  obtain ⟨fs, hret, hrun, hended, hW, hframe⟩ := X.leave (v := some (.int 1)) (hlocks := hlocks) (fun h => by rw [hr] at h; cases h)
  have hmeth' : T.vm.method? m = some meth := X.method'
  refine ⟨T.setFrames fs, ?_, .returned (some (.int 1)), hrun, hended, rfl, ⟨_, rfl⟩, hW, hframe⟩
  jvm_step X.here [X.here.top, hx, hb, hdg, hmeth', hr, ret, narrow_b1]
  (try refine ⟨rfl, ?_⟩); (try refine ⟨rfl, ?_⟩)
  first | (intro acts; rw [hret _ acts rfl rfl rfl]) | rw [hret _ _ rfl rfl rfl]
  exact Steps.refl _
/-- what holds at the law's entry: the machine, the code, the tables' words (any of lw_tbl by 'hts w (by decide +kernel)'), the script of L ints xs at the cell b, what the Statement gives of the start (any of its parts by flat_of_before) -/
def lw_At (p : Program) (s : State) (m : MethodId) (meth : Method) (c : Code) (b L : Nat) (xs : Nat → Int32) : Prop :=
  p.tables.exec = Jvm.exec ∧ c.code = code ∧ meth.sig.returnType = ret ∧ c.maxLocals = 4 ∧ s.vm.findClass R_law = some m.cls ∧ (∀ w ∈ lw_tbl, w.before #[Value.ref b] s = true) ∧ va_X b L xs s s.heap ∧ b < s.heap.size ∧ meth.locks = false ∧ (Jvm.Cond.and given_1 narrow_1).before #[Value.ref b] s = true
theorem d_law_0 : decode code 0 = .ok (.new 7, 3) := by decide +kernel
theorem d_law_3 : decode code 3 = .ok (.dup, 1) := by decide +kernel
theorem d_law_4 : decode code 4 = .ok (.invokespecial 9, 3) := by decide +kernel
theorem d_law_7 : decode code 7 = .ok (.astore_n 1, 1) := by decide +kernel
theorem d_law_8 : decode code 8 = .ok (.new 10, 3) := by decide +kernel
theorem d_law_11 : decode code 11 = .ok (.dup, 1) := by decide +kernel
theorem d_law_12 : decode code 12 = .ok (.invokespecial 12, 3) := by decide +kernel
theorem d_law_15 : decode code 15 = .ok (.astore_n 2, 1) := by decide +kernel
theorem d_law_16 : decode code 16 = .ok (.iconst 0, 1) := by decide +kernel
theorem d_law_17 : decode code 17 = .ok (.istore_n 3, 1) := by decide +kernel
theorem d_law_18 : decode code 18 = .ok (.iload_n 3, 1) := by decide +kernel
theorem d_law_19 : decode code 19 = .ok (.aload_n 0, 1) := by decide +kernel
theorem d_law_20 : decode code 20 = .ok (.arraylength, 1) := by decide +kernel
theorem d_law_21 : decode code 21 = .ok (.bipush 6, 2) := by decide +kernel
theorem d_law_23 : decode code 23 = .ok (.isub, 1) := by decide +kernel
theorem d_law_24 : decode code 24 = .ok (.if_icmp .gt 982, 3) := by decide +kernel
theorem d_law_27 : decode code 27 = .ok (.aload_n 0, 1) := by decide +kernel
theorem d_law_28 : decode code 28 = .ok (.iload_n 3, 1) := by decide +kernel
theorem d_law_29 : decode code 29 = .ok (.iaload, 1) := by decide +kernel
theorem d_law_30 : decode code 30 = .ok (.bipush 31, 2) := by decide +kernel
theorem d_law_32 : decode code 32 = .ok (.iand, 1) := by decide +kernel
theorem d_law_33 : decode code 33 = .ok (.tableswitch 967 0 25 #[119, 142, 165, 178, 191, 214, 227, 270, 303, 366, 409, 442, 475, 538, 581, 604, 627, 650, 683, 726, 759, 782, 835, 878, 921, 944], 119) := by decide +kernel
theorem d_law_152 : decode code 152 = .ok (.aload_n 1, 1) := by decide +kernel
theorem d_law_153 : decode code 153 = .ok (.aload_n 0, 1) := by decide +kernel
theorem d_law_154 : decode code 154 = .ok (.iload_n 3, 1) := by decide +kernel
theorem d_law_155 : decode code 155 = .ok (.iconst 1, 1) := by decide +kernel
theorem d_law_156 : decode code 156 = .ok (.iadd, 1) := by decide +kernel
theorem d_law_157 : decode code 157 = .ok (.iaload, 1) := by decide +kernel
theorem d_law_158 : decode code 158 = .ok (.invokevirtual 13, 3) := by decide +kernel
theorem d_law_161 : decode code 161 = .ok (.aload_n 2, 1) := by decide +kernel
theorem d_law_162 : decode code 162 = .ok (.aload_n 0, 1) := by decide +kernel
theorem d_law_163 : decode code 163 = .ok (.iload_n 3, 1) := by decide +kernel
theorem d_law_164 : decode code 164 = .ok (.iconst 1, 1) := by decide +kernel
theorem d_law_165 : decode code 165 = .ok (.iadd, 1) := by decide +kernel
theorem d_law_166 : decode code 166 = .ok (.iaload, 1) := by decide +kernel
theorem d_law_167 : decode code 167 = .ok (.invokevirtual 17, 3) := by decide +kernel
theorem d_law_170 : decode code 170 = .ok (.if_icmp .eq 830, 3) := by decide +kernel
theorem d_law_173 : decode code 173 = .ok (.iconst 0, 1) := by decide +kernel
theorem d_law_174 : decode code 174 = .ok (.ireturn, 1) := by decide +kernel
theorem d_law_175 : decode code 175 = .ok (.aload_n 1, 1) := by decide +kernel
theorem d_law_176 : decode code 176 = .ok (.aload_n 0, 1) := by decide +kernel
theorem d_law_177 : decode code 177 = .ok (.iload_n 3, 1) := by decide +kernel
theorem d_law_178 : decode code 178 = .ok (.iconst 1, 1) := by decide +kernel
theorem d_law_179 : decode code 179 = .ok (.iadd, 1) := by decide +kernel
theorem d_law_180 : decode code 180 = .ok (.iaload, 1) := by decide +kernel
theorem d_law_181 : decode code 181 = .ok (.invokevirtual 18, 3) := by decide +kernel
theorem d_law_184 : decode code 184 = .ok (.aload_n 2, 1) := by decide +kernel
theorem d_law_185 : decode code 185 = .ok (.aload_n 0, 1) := by decide +kernel
theorem d_law_186 : decode code 186 = .ok (.iload_n 3, 1) := by decide +kernel
theorem d_law_187 : decode code 187 = .ok (.iconst 1, 1) := by decide +kernel
theorem d_law_188 : decode code 188 = .ok (.iadd, 1) := by decide +kernel
theorem d_law_189 : decode code 189 = .ok (.iaload, 1) := by decide +kernel
theorem d_law_190 : decode code 190 = .ok (.invokevirtual 21, 3) := by decide +kernel
theorem d_law_193 : decode code 193 = .ok (.if_icmp .eq 807, 3) := by decide +kernel
theorem d_law_196 : decode code 196 = .ok (.iconst 0, 1) := by decide +kernel
theorem d_law_197 : decode code 197 = .ok (.ireturn, 1) := by decide +kernel
theorem d_law_198 : decode code 198 = .ok (.aload_n 1, 1) := by decide +kernel
theorem d_law_199 : decode code 199 = .ok (.invokevirtual 22, 3) := by decide +kernel
theorem d_law_202 : decode code 202 = .ok (.aload_n 2, 1) := by decide +kernel
theorem d_law_203 : decode code 203 = .ok (.invokevirtual 26, 3) := by decide +kernel
theorem d_law_206 : decode code 206 = .ok (.if_icmp .eq 794, 3) := by decide +kernel
theorem d_law_209 : decode code 209 = .ok (.iconst 0, 1) := by decide +kernel
theorem d_law_210 : decode code 210 = .ok (.ireturn, 1) := by decide +kernel
theorem d_law_211 : decode code 211 = .ok (.aload_n 1, 1) := by decide +kernel
theorem d_law_212 : decode code 212 = .ok (.invokevirtual 27, 3) := by decide +kernel
theorem d_law_215 : decode code 215 = .ok (.aload_n 2, 1) := by decide +kernel
theorem d_law_216 : decode code 216 = .ok (.invokevirtual 30, 3) := by decide +kernel
theorem d_law_219 : decode code 219 = .ok (.if_icmp .eq 781, 3) := by decide +kernel
theorem d_law_222 : decode code 222 = .ok (.iconst 0, 1) := by decide +kernel
theorem d_law_223 : decode code 223 = .ok (.ireturn, 1) := by decide +kernel
theorem d_law_224 : decode code 224 = .ok (.aload_n 1, 1) := by decide +kernel
theorem d_law_225 : decode code 225 = .ok (.aload_n 0, 1) := by decide +kernel
theorem d_law_226 : decode code 226 = .ok (.iload_n 3, 1) := by decide +kernel
theorem d_law_227 : decode code 227 = .ok (.iconst 1, 1) := by decide +kernel
theorem d_law_228 : decode code 228 = .ok (.iadd, 1) := by decide +kernel
theorem d_law_229 : decode code 229 = .ok (.iaload, 1) := by decide +kernel
theorem d_law_230 : decode code 230 = .ok (.invokevirtual 31, 3) := by decide +kernel
theorem d_law_233 : decode code 233 = .ok (.aload_n 2, 1) := by decide +kernel
theorem d_law_234 : decode code 234 = .ok (.aload_n 0, 1) := by decide +kernel
theorem d_law_235 : decode code 235 = .ok (.iload_n 3, 1) := by decide +kernel
theorem d_law_236 : decode code 236 = .ok (.iconst 1, 1) := by decide +kernel
theorem d_law_237 : decode code 237 = .ok (.iadd, 1) := by decide +kernel
theorem d_law_238 : decode code 238 = .ok (.iaload, 1) := by decide +kernel
theorem d_law_239 : decode code 239 = .ok (.invokevirtual 34, 3) := by decide +kernel
theorem d_law_242 : decode code 242 = .ok (.if_icmp .eq 758, 3) := by decide +kernel
theorem d_law_245 : decode code 245 = .ok (.iconst 0, 1) := by decide +kernel
theorem d_law_246 : decode code 246 = .ok (.ireturn, 1) := by decide +kernel
theorem d_law_247 : decode code 247 = .ok (.aload_n 1, 1) := by decide +kernel
theorem d_law_248 : decode code 248 = .ok (.invokevirtual 35, 3) := by decide +kernel
theorem d_law_251 : decode code 251 = .ok (.aload_n 2, 1) := by decide +kernel
theorem d_law_252 : decode code 252 = .ok (.invokevirtual 38, 3) := by decide +kernel
theorem d_law_255 : decode code 255 = .ok (.if_icmp .eq 745, 3) := by decide +kernel
theorem d_law_258 : decode code 258 = .ok (.iconst 0, 1) := by decide +kernel
theorem d_law_259 : decode code 259 = .ok (.ireturn, 1) := by decide +kernel
theorem d_law_260 : decode code 260 = .ok (.aload_n 1, 1) := by decide +kernel
theorem d_law_261 : decode code 261 = .ok (.aload_n 0, 1) := by decide +kernel
theorem d_law_262 : decode code 262 = .ok (.iload_n 3, 1) := by decide +kernel
theorem d_law_263 : decode code 263 = .ok (.iconst 1, 1) := by decide +kernel
theorem d_law_264 : decode code 264 = .ok (.iadd, 1) := by decide +kernel
theorem d_law_265 : decode code 265 = .ok (.iaload, 1) := by decide +kernel
theorem d_law_266 : decode code 266 = .ok (.aload_n 0, 1) := by decide +kernel
theorem d_law_267 : decode code 267 = .ok (.iload_n 3, 1) := by decide +kernel
theorem d_law_268 : decode code 268 = .ok (.iconst 2, 1) := by decide +kernel
theorem d_law_269 : decode code 269 = .ok (.iadd, 1) := by decide +kernel
theorem d_law_270 : decode code 270 = .ok (.iaload, 1) := by decide +kernel
theorem d_law_271 : decode code 271 = .ok (.aload_n 0, 1) := by decide +kernel
theorem d_law_272 : decode code 272 = .ok (.iload_n 3, 1) := by decide +kernel
theorem d_law_273 : decode code 273 = .ok (.iconst 3, 1) := by decide +kernel
theorem d_law_274 : decode code 274 = .ok (.iadd, 1) := by decide +kernel
theorem d_law_275 : decode code 275 = .ok (.iaload, 1) := by decide +kernel
theorem d_law_276 : decode code 276 = .ok (.invokevirtual 39, 3) := by decide +kernel
theorem d_law_279 : decode code 279 = .ok (.aload_n 2, 1) := by decide +kernel
theorem d_law_280 : decode code 280 = .ok (.aload_n 0, 1) := by decide +kernel
theorem d_law_281 : decode code 281 = .ok (.iload_n 3, 1) := by decide +kernel
theorem d_law_282 : decode code 282 = .ok (.iconst 1, 1) := by decide +kernel
theorem d_law_283 : decode code 283 = .ok (.iadd, 1) := by decide +kernel
theorem d_law_284 : decode code 284 = .ok (.iaload, 1) := by decide +kernel
theorem d_law_285 : decode code 285 = .ok (.aload_n 0, 1) := by decide +kernel
theorem d_law_286 : decode code 286 = .ok (.iload_n 3, 1) := by decide +kernel
theorem d_law_287 : decode code 287 = .ok (.iconst 2, 1) := by decide +kernel
theorem d_law_288 : decode code 288 = .ok (.iadd, 1) := by decide +kernel
theorem d_law_289 : decode code 289 = .ok (.iaload, 1) := by decide +kernel
theorem d_law_290 : decode code 290 = .ok (.aload_n 0, 1) := by decide +kernel
theorem d_law_291 : decode code 291 = .ok (.iload_n 3, 1) := by decide +kernel
theorem d_law_292 : decode code 292 = .ok (.iconst 3, 1) := by decide +kernel
theorem d_law_293 : decode code 293 = .ok (.iadd, 1) := by decide +kernel
theorem d_law_294 : decode code 294 = .ok (.iaload, 1) := by decide +kernel
theorem d_law_295 : decode code 295 = .ok (.invokevirtual 43, 3) := by decide +kernel
theorem d_law_298 : decode code 298 = .ok (.if_icmp .eq 702, 3) := by decide +kernel
theorem d_law_301 : decode code 301 = .ok (.iconst 0, 1) := by decide +kernel
theorem d_law_302 : decode code 302 = .ok (.ireturn, 1) := by decide +kernel
theorem d_law_303 : decode code 303 = .ok (.aload_n 1, 1) := by decide +kernel
theorem d_law_304 : decode code 304 = .ok (.aload_n 0, 1) := by decide +kernel
theorem d_law_305 : decode code 305 = .ok (.iload_n 3, 1) := by decide +kernel
theorem d_law_306 : decode code 306 = .ok (.iconst 1, 1) := by decide +kernel
theorem d_law_307 : decode code 307 = .ok (.iadd, 1) := by decide +kernel
theorem d_law_308 : decode code 308 = .ok (.iaload, 1) := by decide +kernel
theorem d_law_309 : decode code 309 = .ok (.aload_n 0, 1) := by decide +kernel
theorem d_law_310 : decode code 310 = .ok (.iload_n 3, 1) := by decide +kernel
theorem d_law_311 : decode code 311 = .ok (.iconst 2, 1) := by decide +kernel
theorem d_law_312 : decode code 312 = .ok (.iadd, 1) := by decide +kernel
theorem d_law_313 : decode code 313 = .ok (.iaload, 1) := by decide +kernel
theorem d_law_314 : decode code 314 = .ok (.invokevirtual 44, 3) := by decide +kernel
theorem d_law_317 : decode code 317 = .ok (.aload_n 2, 1) := by decide +kernel
theorem d_law_318 : decode code 318 = .ok (.aload_n 0, 1) := by decide +kernel
theorem d_law_319 : decode code 319 = .ok (.iload_n 3, 1) := by decide +kernel
theorem d_law_320 : decode code 320 = .ok (.iconst 1, 1) := by decide +kernel
theorem d_law_321 : decode code 321 = .ok (.iadd, 1) := by decide +kernel
theorem d_law_322 : decode code 322 = .ok (.iaload, 1) := by decide +kernel
theorem d_law_323 : decode code 323 = .ok (.aload_n 0, 1) := by decide +kernel
theorem d_law_324 : decode code 324 = .ok (.iload_n 3, 1) := by decide +kernel
theorem d_law_325 : decode code 325 = .ok (.iconst 2, 1) := by decide +kernel
theorem d_law_326 : decode code 326 = .ok (.iadd, 1) := by decide +kernel
theorem d_law_327 : decode code 327 = .ok (.iaload, 1) := by decide +kernel
theorem d_law_328 : decode code 328 = .ok (.invokevirtual 48, 3) := by decide +kernel
theorem d_law_331 : decode code 331 = .ok (.if_icmp .eq 669, 3) := by decide +kernel
theorem d_law_334 : decode code 334 = .ok (.iconst 0, 1) := by decide +kernel
theorem d_law_335 : decode code 335 = .ok (.ireturn, 1) := by decide +kernel
theorem d_law_336 : decode code 336 = .ok (.aload_n 1, 1) := by decide +kernel
theorem d_law_337 : decode code 337 = .ok (.aload_n 0, 1) := by decide +kernel
theorem d_law_338 : decode code 338 = .ok (.iload_n 3, 1) := by decide +kernel
theorem d_law_339 : decode code 339 = .ok (.iconst 1, 1) := by decide +kernel
theorem d_law_340 : decode code 340 = .ok (.iadd, 1) := by decide +kernel
theorem d_law_341 : decode code 341 = .ok (.iaload, 1) := by decide +kernel
theorem d_law_342 : decode code 342 = .ok (.aload_n 0, 1) := by decide +kernel
theorem d_law_343 : decode code 343 = .ok (.iload_n 3, 1) := by decide +kernel
theorem d_law_344 : decode code 344 = .ok (.iconst 2, 1) := by decide +kernel
theorem d_law_345 : decode code 345 = .ok (.iadd, 1) := by decide +kernel
theorem d_law_346 : decode code 346 = .ok (.iaload, 1) := by decide +kernel
theorem d_law_347 : decode code 347 = .ok (.aload_n 0, 1) := by decide +kernel
theorem d_law_348 : decode code 348 = .ok (.iload_n 3, 1) := by decide +kernel
theorem d_law_349 : decode code 349 = .ok (.iconst 3, 1) := by decide +kernel
theorem d_law_350 : decode code 350 = .ok (.iadd, 1) := by decide +kernel
theorem d_law_351 : decode code 351 = .ok (.iaload, 1) := by decide +kernel
theorem d_law_352 : decode code 352 = .ok (.aload_n 0, 1) := by decide +kernel
theorem d_law_353 : decode code 353 = .ok (.iload_n 3, 1) := by decide +kernel
theorem d_law_354 : decode code 354 = .ok (.iconst 4, 1) := by decide +kernel
theorem d_law_355 : decode code 355 = .ok (.iadd, 1) := by decide +kernel
theorem d_law_356 : decode code 356 = .ok (.iaload, 1) := by decide +kernel
theorem d_law_357 : decode code 357 = .ok (.aload_n 0, 1) := by decide +kernel
theorem d_law_358 : decode code 358 = .ok (.iload_n 3, 1) := by decide +kernel
theorem d_law_359 : decode code 359 = .ok (.iconst 5, 1) := by decide +kernel
theorem d_law_360 : decode code 360 = .ok (.iadd, 1) := by decide +kernel
theorem d_law_361 : decode code 361 = .ok (.iaload, 1) := by decide +kernel
theorem d_law_362 : decode code 362 = .ok (.invokevirtual 49, 3) := by decide +kernel
theorem d_law_365 : decode code 365 = .ok (.aload_n 2, 1) := by decide +kernel
theorem d_law_366 : decode code 366 = .ok (.aload_n 0, 1) := by decide +kernel
theorem d_law_367 : decode code 367 = .ok (.iload_n 3, 1) := by decide +kernel
theorem d_law_368 : decode code 368 = .ok (.iconst 1, 1) := by decide +kernel
theorem d_law_369 : decode code 369 = .ok (.iadd, 1) := by decide +kernel
theorem d_law_370 : decode code 370 = .ok (.iaload, 1) := by decide +kernel
theorem d_law_371 : decode code 371 = .ok (.aload_n 0, 1) := by decide +kernel
theorem d_law_372 : decode code 372 = .ok (.iload_n 3, 1) := by decide +kernel
theorem d_law_373 : decode code 373 = .ok (.iconst 2, 1) := by decide +kernel
theorem d_law_374 : decode code 374 = .ok (.iadd, 1) := by decide +kernel
theorem d_law_375 : decode code 375 = .ok (.iaload, 1) := by decide +kernel
theorem d_law_376 : decode code 376 = .ok (.aload_n 0, 1) := by decide +kernel
theorem d_law_377 : decode code 377 = .ok (.iload_n 3, 1) := by decide +kernel
theorem d_law_378 : decode code 378 = .ok (.iconst 3, 1) := by decide +kernel
theorem d_law_379 : decode code 379 = .ok (.iadd, 1) := by decide +kernel
theorem d_law_380 : decode code 380 = .ok (.iaload, 1) := by decide +kernel
theorem d_law_381 : decode code 381 = .ok (.aload_n 0, 1) := by decide +kernel
theorem d_law_382 : decode code 382 = .ok (.iload_n 3, 1) := by decide +kernel
theorem d_law_383 : decode code 383 = .ok (.iconst 4, 1) := by decide +kernel
theorem d_law_384 : decode code 384 = .ok (.iadd, 1) := by decide +kernel
theorem d_law_385 : decode code 385 = .ok (.iaload, 1) := by decide +kernel
theorem d_law_386 : decode code 386 = .ok (.aload_n 0, 1) := by decide +kernel
theorem d_law_387 : decode code 387 = .ok (.iload_n 3, 1) := by decide +kernel
theorem d_law_388 : decode code 388 = .ok (.iconst 5, 1) := by decide +kernel
theorem d_law_389 : decode code 389 = .ok (.iadd, 1) := by decide +kernel
theorem d_law_390 : decode code 390 = .ok (.iaload, 1) := by decide +kernel
theorem d_law_391 : decode code 391 = .ok (.invokevirtual 53, 3) := by decide +kernel
theorem d_law_394 : decode code 394 = .ok (.if_icmp .eq 606, 3) := by decide +kernel
theorem d_law_397 : decode code 397 = .ok (.iconst 0, 1) := by decide +kernel
theorem d_law_398 : decode code 398 = .ok (.ireturn, 1) := by decide +kernel
theorem d_law_399 : decode code 399 = .ok (.aload_n 1, 1) := by decide +kernel
theorem d_law_400 : decode code 400 = .ok (.aload_n 0, 1) := by decide +kernel
theorem d_law_401 : decode code 401 = .ok (.iload_n 3, 1) := by decide +kernel
theorem d_law_402 : decode code 402 = .ok (.iconst 1, 1) := by decide +kernel
theorem d_law_403 : decode code 403 = .ok (.iadd, 1) := by decide +kernel
theorem d_law_404 : decode code 404 = .ok (.iaload, 1) := by decide +kernel
theorem d_law_405 : decode code 405 = .ok (.aload_n 0, 1) := by decide +kernel
theorem d_law_406 : decode code 406 = .ok (.iload_n 3, 1) := by decide +kernel
theorem d_law_407 : decode code 407 = .ok (.iconst 2, 1) := by decide +kernel
theorem d_law_408 : decode code 408 = .ok (.iadd, 1) := by decide +kernel
theorem d_law_409 : decode code 409 = .ok (.iaload, 1) := by decide +kernel
theorem d_law_410 : decode code 410 = .ok (.aload_n 0, 1) := by decide +kernel
theorem d_law_411 : decode code 411 = .ok (.iload_n 3, 1) := by decide +kernel
theorem d_law_412 : decode code 412 = .ok (.iconst 3, 1) := by decide +kernel
theorem d_law_413 : decode code 413 = .ok (.iadd, 1) := by decide +kernel
theorem d_law_414 : decode code 414 = .ok (.iaload, 1) := by decide +kernel
theorem d_law_415 : decode code 415 = .ok (.invokevirtual 54, 3) := by decide +kernel
theorem d_law_418 : decode code 418 = .ok (.aload_n 2, 1) := by decide +kernel
theorem d_law_419 : decode code 419 = .ok (.aload_n 0, 1) := by decide +kernel
theorem d_law_420 : decode code 420 = .ok (.iload_n 3, 1) := by decide +kernel
theorem d_law_421 : decode code 421 = .ok (.iconst 1, 1) := by decide +kernel
theorem d_law_422 : decode code 422 = .ok (.iadd, 1) := by decide +kernel
theorem d_law_423 : decode code 423 = .ok (.iaload, 1) := by decide +kernel
theorem d_law_424 : decode code 424 = .ok (.aload_n 0, 1) := by decide +kernel
theorem d_law_425 : decode code 425 = .ok (.iload_n 3, 1) := by decide +kernel
theorem d_law_426 : decode code 426 = .ok (.iconst 2, 1) := by decide +kernel
theorem d_law_427 : decode code 427 = .ok (.iadd, 1) := by decide +kernel
theorem d_law_428 : decode code 428 = .ok (.iaload, 1) := by decide +kernel
theorem d_law_429 : decode code 429 = .ok (.aload_n 0, 1) := by decide +kernel
theorem d_law_430 : decode code 430 = .ok (.iload_n 3, 1) := by decide +kernel
theorem d_law_431 : decode code 431 = .ok (.iconst 3, 1) := by decide +kernel
theorem d_law_432 : decode code 432 = .ok (.iadd, 1) := by decide +kernel
theorem d_law_433 : decode code 433 = .ok (.iaload, 1) := by decide +kernel
theorem d_law_434 : decode code 434 = .ok (.invokevirtual 57, 3) := by decide +kernel
theorem d_law_437 : decode code 437 = .ok (.if_icmp .eq 563, 3) := by decide +kernel
theorem d_law_440 : decode code 440 = .ok (.iconst 0, 1) := by decide +kernel
theorem d_law_441 : decode code 441 = .ok (.ireturn, 1) := by decide +kernel
theorem d_law_442 : decode code 442 = .ok (.aload_n 1, 1) := by decide +kernel
theorem d_law_443 : decode code 443 = .ok (.aload_n 0, 1) := by decide +kernel
theorem d_law_444 : decode code 444 = .ok (.iload_n 3, 1) := by decide +kernel
theorem d_law_445 : decode code 445 = .ok (.iconst 1, 1) := by decide +kernel
theorem d_law_446 : decode code 446 = .ok (.iadd, 1) := by decide +kernel
theorem d_law_447 : decode code 447 = .ok (.iaload, 1) := by decide +kernel
theorem d_law_448 : decode code 448 = .ok (.aload_n 0, 1) := by decide +kernel
theorem d_law_449 : decode code 449 = .ok (.iload_n 3, 1) := by decide +kernel
theorem d_law_450 : decode code 450 = .ok (.iconst 2, 1) := by decide +kernel
theorem d_law_451 : decode code 451 = .ok (.iadd, 1) := by decide +kernel
theorem d_law_452 : decode code 452 = .ok (.iaload, 1) := by decide +kernel
theorem d_law_453 : decode code 453 = .ok (.invokevirtual 58, 3) := by decide +kernel
theorem d_law_456 : decode code 456 = .ok (.aload_n 2, 1) := by decide +kernel
theorem d_law_457 : decode code 457 = .ok (.aload_n 0, 1) := by decide +kernel
theorem d_law_458 : decode code 458 = .ok (.iload_n 3, 1) := by decide +kernel
theorem d_law_459 : decode code 459 = .ok (.iconst 1, 1) := by decide +kernel
theorem d_law_460 : decode code 460 = .ok (.iadd, 1) := by decide +kernel
theorem d_law_461 : decode code 461 = .ok (.iaload, 1) := by decide +kernel
theorem d_law_462 : decode code 462 = .ok (.aload_n 0, 1) := by decide +kernel
theorem d_law_463 : decode code 463 = .ok (.iload_n 3, 1) := by decide +kernel
theorem d_law_464 : decode code 464 = .ok (.iconst 2, 1) := by decide +kernel
theorem d_law_465 : decode code 465 = .ok (.iadd, 1) := by decide +kernel
theorem d_law_466 : decode code 466 = .ok (.iaload, 1) := by decide +kernel
theorem d_law_467 : decode code 467 = .ok (.invokevirtual 61, 3) := by decide +kernel
theorem d_law_470 : decode code 470 = .ok (.if_icmp .eq 530, 3) := by decide +kernel
theorem d_law_473 : decode code 473 = .ok (.iconst 0, 1) := by decide +kernel
theorem d_law_474 : decode code 474 = .ok (.ireturn, 1) := by decide +kernel
theorem d_law_475 : decode code 475 = .ok (.aload_n 1, 1) := by decide +kernel
theorem d_law_476 : decode code 476 = .ok (.aload_n 0, 1) := by decide +kernel
theorem d_law_477 : decode code 477 = .ok (.iload_n 3, 1) := by decide +kernel
theorem d_law_478 : decode code 478 = .ok (.iconst 1, 1) := by decide +kernel
theorem d_law_479 : decode code 479 = .ok (.iadd, 1) := by decide +kernel
theorem d_law_480 : decode code 480 = .ok (.iaload, 1) := by decide +kernel
theorem d_law_481 : decode code 481 = .ok (.aload_n 0, 1) := by decide +kernel
theorem d_law_482 : decode code 482 = .ok (.iload_n 3, 1) := by decide +kernel
theorem d_law_483 : decode code 483 = .ok (.iconst 2, 1) := by decide +kernel
theorem d_law_484 : decode code 484 = .ok (.iadd, 1) := by decide +kernel
theorem d_law_485 : decode code 485 = .ok (.iaload, 1) := by decide +kernel
theorem d_law_486 : decode code 486 = .ok (.invokevirtual 62, 3) := by decide +kernel
theorem d_law_489 : decode code 489 = .ok (.aload_n 2, 1) := by decide +kernel
theorem d_law_490 : decode code 490 = .ok (.aload_n 0, 1) := by decide +kernel
theorem d_law_491 : decode code 491 = .ok (.iload_n 3, 1) := by decide +kernel
theorem d_law_492 : decode code 492 = .ok (.iconst 1, 1) := by decide +kernel
theorem d_law_493 : decode code 493 = .ok (.iadd, 1) := by decide +kernel
theorem d_law_494 : decode code 494 = .ok (.iaload, 1) := by decide +kernel
theorem d_law_495 : decode code 495 = .ok (.aload_n 0, 1) := by decide +kernel
theorem d_law_496 : decode code 496 = .ok (.iload_n 3, 1) := by decide +kernel
theorem d_law_497 : decode code 497 = .ok (.iconst 2, 1) := by decide +kernel
theorem d_law_498 : decode code 498 = .ok (.iadd, 1) := by decide +kernel
theorem d_law_499 : decode code 499 = .ok (.iaload, 1) := by decide +kernel
theorem d_law_500 : decode code 500 = .ok (.invokevirtual 65, 3) := by decide +kernel
theorem d_law_503 : decode code 503 = .ok (.if_icmp .eq 497, 3) := by decide +kernel
theorem d_law_506 : decode code 506 = .ok (.iconst 0, 1) := by decide +kernel
theorem d_law_507 : decode code 507 = .ok (.ireturn, 1) := by decide +kernel
theorem d_law_508 : decode code 508 = .ok (.aload_n 1, 1) := by decide +kernel
theorem d_law_509 : decode code 509 = .ok (.aload_n 0, 1) := by decide +kernel
theorem d_law_510 : decode code 510 = .ok (.iload_n 3, 1) := by decide +kernel
theorem d_law_511 : decode code 511 = .ok (.iconst 1, 1) := by decide +kernel
theorem d_law_512 : decode code 512 = .ok (.iadd, 1) := by decide +kernel
theorem d_law_513 : decode code 513 = .ok (.iaload, 1) := by decide +kernel
theorem d_law_514 : decode code 514 = .ok (.aload_n 0, 1) := by decide +kernel
theorem d_law_515 : decode code 515 = .ok (.iload_n 3, 1) := by decide +kernel
theorem d_law_516 : decode code 516 = .ok (.iconst 2, 1) := by decide +kernel
theorem d_law_517 : decode code 517 = .ok (.iadd, 1) := by decide +kernel
theorem d_law_518 : decode code 518 = .ok (.iaload, 1) := by decide +kernel
theorem d_law_519 : decode code 519 = .ok (.aload_n 0, 1) := by decide +kernel
theorem d_law_520 : decode code 520 = .ok (.iload_n 3, 1) := by decide +kernel
theorem d_law_521 : decode code 521 = .ok (.iconst 3, 1) := by decide +kernel
theorem d_law_522 : decode code 522 = .ok (.iadd, 1) := by decide +kernel
theorem d_law_523 : decode code 523 = .ok (.iaload, 1) := by decide +kernel
theorem d_law_524 : decode code 524 = .ok (.aload_n 0, 1) := by decide +kernel
theorem d_law_525 : decode code 525 = .ok (.iload_n 3, 1) := by decide +kernel
theorem d_law_526 : decode code 526 = .ok (.iconst 4, 1) := by decide +kernel
theorem d_law_527 : decode code 527 = .ok (.iadd, 1) := by decide +kernel
theorem d_law_528 : decode code 528 = .ok (.iaload, 1) := by decide +kernel
theorem d_law_529 : decode code 529 = .ok (.aload_n 0, 1) := by decide +kernel
theorem d_law_530 : decode code 530 = .ok (.iload_n 3, 1) := by decide +kernel
theorem d_law_531 : decode code 531 = .ok (.iconst 5, 1) := by decide +kernel
theorem d_law_532 : decode code 532 = .ok (.iadd, 1) := by decide +kernel
theorem d_law_533 : decode code 533 = .ok (.iaload, 1) := by decide +kernel
theorem d_law_534 : decode code 534 = .ok (.invokevirtual 66, 3) := by decide +kernel
theorem d_law_537 : decode code 537 = .ok (.aload_n 2, 1) := by decide +kernel
theorem d_law_538 : decode code 538 = .ok (.aload_n 0, 1) := by decide +kernel
theorem d_law_539 : decode code 539 = .ok (.iload_n 3, 1) := by decide +kernel
theorem d_law_540 : decode code 540 = .ok (.iconst 1, 1) := by decide +kernel
theorem d_law_541 : decode code 541 = .ok (.iadd, 1) := by decide +kernel
theorem d_law_542 : decode code 542 = .ok (.iaload, 1) := by decide +kernel
theorem d_law_543 : decode code 543 = .ok (.aload_n 0, 1) := by decide +kernel
theorem d_law_544 : decode code 544 = .ok (.iload_n 3, 1) := by decide +kernel
theorem d_law_545 : decode code 545 = .ok (.iconst 2, 1) := by decide +kernel
theorem d_law_546 : decode code 546 = .ok (.iadd, 1) := by decide +kernel
theorem d_law_547 : decode code 547 = .ok (.iaload, 1) := by decide +kernel
theorem d_law_548 : decode code 548 = .ok (.aload_n 0, 1) := by decide +kernel
theorem d_law_549 : decode code 549 = .ok (.iload_n 3, 1) := by decide +kernel
theorem d_law_550 : decode code 550 = .ok (.iconst 3, 1) := by decide +kernel
theorem d_law_551 : decode code 551 = .ok (.iadd, 1) := by decide +kernel
theorem d_law_552 : decode code 552 = .ok (.iaload, 1) := by decide +kernel
theorem d_law_553 : decode code 553 = .ok (.aload_n 0, 1) := by decide +kernel
theorem d_law_554 : decode code 554 = .ok (.iload_n 3, 1) := by decide +kernel
theorem d_law_555 : decode code 555 = .ok (.iconst 4, 1) := by decide +kernel
theorem d_law_556 : decode code 556 = .ok (.iadd, 1) := by decide +kernel
theorem d_law_557 : decode code 557 = .ok (.iaload, 1) := by decide +kernel
theorem d_law_558 : decode code 558 = .ok (.aload_n 0, 1) := by decide +kernel
theorem d_law_559 : decode code 559 = .ok (.iload_n 3, 1) := by decide +kernel
theorem d_law_560 : decode code 560 = .ok (.iconst 5, 1) := by decide +kernel
theorem d_law_561 : decode code 561 = .ok (.iadd, 1) := by decide +kernel
theorem d_law_562 : decode code 562 = .ok (.iaload, 1) := by decide +kernel
theorem d_law_563 : decode code 563 = .ok (.invokevirtual 69, 3) := by decide +kernel
theorem d_law_566 : decode code 566 = .ok (.if_icmp .eq 434, 3) := by decide +kernel
theorem d_law_569 : decode code 569 = .ok (.iconst 0, 1) := by decide +kernel
theorem d_law_570 : decode code 570 = .ok (.ireturn, 1) := by decide +kernel
theorem d_law_571 : decode code 571 = .ok (.aload_n 1, 1) := by decide +kernel
theorem d_law_572 : decode code 572 = .ok (.aload_n 0, 1) := by decide +kernel
theorem d_law_573 : decode code 573 = .ok (.iload_n 3, 1) := by decide +kernel
theorem d_law_574 : decode code 574 = .ok (.iconst 1, 1) := by decide +kernel
theorem d_law_575 : decode code 575 = .ok (.iadd, 1) := by decide +kernel
theorem d_law_576 : decode code 576 = .ok (.iaload, 1) := by decide +kernel
theorem d_law_577 : decode code 577 = .ok (.aload_n 0, 1) := by decide +kernel
theorem d_law_578 : decode code 578 = .ok (.iload_n 3, 1) := by decide +kernel
theorem d_law_579 : decode code 579 = .ok (.iconst 2, 1) := by decide +kernel
theorem d_law_580 : decode code 580 = .ok (.iadd, 1) := by decide +kernel
theorem d_law_581 : decode code 581 = .ok (.iaload, 1) := by decide +kernel
theorem d_law_582 : decode code 582 = .ok (.aload_n 0, 1) := by decide +kernel
theorem d_law_583 : decode code 583 = .ok (.iload_n 3, 1) := by decide +kernel
theorem d_law_584 : decode code 584 = .ok (.iconst 3, 1) := by decide +kernel
theorem d_law_585 : decode code 585 = .ok (.iadd, 1) := by decide +kernel
theorem d_law_586 : decode code 586 = .ok (.iaload, 1) := by decide +kernel
theorem d_law_587 : decode code 587 = .ok (.invokevirtual 70, 3) := by decide +kernel
theorem d_law_590 : decode code 590 = .ok (.aload_n 2, 1) := by decide +kernel
theorem d_law_591 : decode code 591 = .ok (.aload_n 0, 1) := by decide +kernel
theorem d_law_592 : decode code 592 = .ok (.iload_n 3, 1) := by decide +kernel
theorem d_law_593 : decode code 593 = .ok (.iconst 1, 1) := by decide +kernel
theorem d_law_594 : decode code 594 = .ok (.iadd, 1) := by decide +kernel
theorem d_law_595 : decode code 595 = .ok (.iaload, 1) := by decide +kernel
theorem d_law_596 : decode code 596 = .ok (.aload_n 0, 1) := by decide +kernel
theorem d_law_597 : decode code 597 = .ok (.iload_n 3, 1) := by decide +kernel
theorem d_law_598 : decode code 598 = .ok (.iconst 2, 1) := by decide +kernel
theorem d_law_599 : decode code 599 = .ok (.iadd, 1) := by decide +kernel
theorem d_law_600 : decode code 600 = .ok (.iaload, 1) := by decide +kernel
theorem d_law_601 : decode code 601 = .ok (.aload_n 0, 1) := by decide +kernel
theorem d_law_602 : decode code 602 = .ok (.iload_n 3, 1) := by decide +kernel
theorem d_law_603 : decode code 603 = .ok (.iconst 3, 1) := by decide +kernel
theorem d_law_604 : decode code 604 = .ok (.iadd, 1) := by decide +kernel
theorem d_law_605 : decode code 605 = .ok (.iaload, 1) := by decide +kernel
theorem d_law_606 : decode code 606 = .ok (.invokevirtual 73, 3) := by decide +kernel
theorem d_law_609 : decode code 609 = .ok (.if_icmp .eq 391, 3) := by decide +kernel
theorem d_law_612 : decode code 612 = .ok (.iconst 0, 1) := by decide +kernel
theorem d_law_613 : decode code 613 = .ok (.ireturn, 1) := by decide +kernel
theorem d_law_614 : decode code 614 = .ok (.aload_n 1, 1) := by decide +kernel
theorem d_law_615 : decode code 615 = .ok (.aload_n 0, 1) := by decide +kernel
theorem d_law_616 : decode code 616 = .ok (.iload_n 3, 1) := by decide +kernel
theorem d_law_617 : decode code 617 = .ok (.iconst 1, 1) := by decide +kernel
theorem d_law_618 : decode code 618 = .ok (.iadd, 1) := by decide +kernel
theorem d_law_619 : decode code 619 = .ok (.iaload, 1) := by decide +kernel
theorem d_law_620 : decode code 620 = .ok (.invokevirtual 74, 3) := by decide +kernel
theorem d_law_623 : decode code 623 = .ok (.aload_n 2, 1) := by decide +kernel
theorem d_law_624 : decode code 624 = .ok (.aload_n 0, 1) := by decide +kernel
theorem d_law_625 : decode code 625 = .ok (.iload_n 3, 1) := by decide +kernel
theorem d_law_626 : decode code 626 = .ok (.iconst 1, 1) := by decide +kernel
theorem d_law_627 : decode code 627 = .ok (.iadd, 1) := by decide +kernel
theorem d_law_628 : decode code 628 = .ok (.iaload, 1) := by decide +kernel
theorem d_law_629 : decode code 629 = .ok (.invokevirtual 77, 3) := by decide +kernel
theorem d_law_632 : decode code 632 = .ok (.if_icmp .eq 368, 3) := by decide +kernel
theorem d_law_635 : decode code 635 = .ok (.iconst 0, 1) := by decide +kernel
theorem d_law_636 : decode code 636 = .ok (.ireturn, 1) := by decide +kernel
theorem d_law_637 : decode code 637 = .ok (.aload_n 1, 1) := by decide +kernel
theorem d_law_638 : decode code 638 = .ok (.aload_n 0, 1) := by decide +kernel
theorem d_law_639 : decode code 639 = .ok (.iload_n 3, 1) := by decide +kernel
theorem d_law_640 : decode code 640 = .ok (.iconst 1, 1) := by decide +kernel
theorem d_law_641 : decode code 641 = .ok (.iadd, 1) := by decide +kernel
theorem d_law_642 : decode code 642 = .ok (.iaload, 1) := by decide +kernel
theorem d_law_643 : decode code 643 = .ok (.invokevirtual 78, 3) := by decide +kernel
theorem d_law_646 : decode code 646 = .ok (.aload_n 2, 1) := by decide +kernel
theorem d_law_647 : decode code 647 = .ok (.aload_n 0, 1) := by decide +kernel
theorem d_law_648 : decode code 648 = .ok (.iload_n 3, 1) := by decide +kernel
theorem d_law_649 : decode code 649 = .ok (.iconst 1, 1) := by decide +kernel
theorem d_law_650 : decode code 650 = .ok (.iadd, 1) := by decide +kernel
theorem d_law_651 : decode code 651 = .ok (.iaload, 1) := by decide +kernel
theorem d_law_652 : decode code 652 = .ok (.invokevirtual 81, 3) := by decide +kernel
theorem d_law_655 : decode code 655 = .ok (.if_icmp .eq 345, 3) := by decide +kernel
theorem d_law_658 : decode code 658 = .ok (.iconst 0, 1) := by decide +kernel
theorem d_law_659 : decode code 659 = .ok (.ireturn, 1) := by decide +kernel
theorem d_law_660 : decode code 660 = .ok (.aload_n 1, 1) := by decide +kernel
theorem d_law_661 : decode code 661 = .ok (.aload_n 0, 1) := by decide +kernel
theorem d_law_662 : decode code 662 = .ok (.iload_n 3, 1) := by decide +kernel
theorem d_law_663 : decode code 663 = .ok (.iconst 1, 1) := by decide +kernel
theorem d_law_664 : decode code 664 = .ok (.iadd, 1) := by decide +kernel
theorem d_law_665 : decode code 665 = .ok (.iaload, 1) := by decide +kernel
theorem d_law_666 : decode code 666 = .ok (.invokevirtual 82, 3) := by decide +kernel
theorem d_law_669 : decode code 669 = .ok (.aload_n 2, 1) := by decide +kernel
theorem d_law_670 : decode code 670 = .ok (.aload_n 0, 1) := by decide +kernel
theorem d_law_671 : decode code 671 = .ok (.iload_n 3, 1) := by decide +kernel
theorem d_law_672 : decode code 672 = .ok (.iconst 1, 1) := by decide +kernel
theorem d_law_673 : decode code 673 = .ok (.iadd, 1) := by decide +kernel
theorem d_law_674 : decode code 674 = .ok (.iaload, 1) := by decide +kernel
theorem d_law_675 : decode code 675 = .ok (.invokevirtual 85, 3) := by decide +kernel
theorem d_law_678 : decode code 678 = .ok (.if_icmp .eq 322, 3) := by decide +kernel
theorem d_law_681 : decode code 681 = .ok (.iconst 0, 1) := by decide +kernel
theorem d_law_682 : decode code 682 = .ok (.ireturn, 1) := by decide +kernel
theorem d_law_683 : decode code 683 = .ok (.aload_n 1, 1) := by decide +kernel
theorem d_law_684 : decode code 684 = .ok (.aload_n 0, 1) := by decide +kernel
theorem d_law_685 : decode code 685 = .ok (.iload_n 3, 1) := by decide +kernel
theorem d_law_686 : decode code 686 = .ok (.iconst 1, 1) := by decide +kernel
theorem d_law_687 : decode code 687 = .ok (.iadd, 1) := by decide +kernel
theorem d_law_688 : decode code 688 = .ok (.iaload, 1) := by decide +kernel
theorem d_law_689 : decode code 689 = .ok (.aload_n 0, 1) := by decide +kernel
theorem d_law_690 : decode code 690 = .ok (.iload_n 3, 1) := by decide +kernel
theorem d_law_691 : decode code 691 = .ok (.iconst 2, 1) := by decide +kernel
theorem d_law_692 : decode code 692 = .ok (.iadd, 1) := by decide +kernel
theorem d_law_693 : decode code 693 = .ok (.iaload, 1) := by decide +kernel
theorem d_law_694 : decode code 694 = .ok (.invokevirtual 86, 3) := by decide +kernel
theorem d_law_697 : decode code 697 = .ok (.aload_n 2, 1) := by decide +kernel
theorem d_law_698 : decode code 698 = .ok (.aload_n 0, 1) := by decide +kernel
theorem d_law_699 : decode code 699 = .ok (.iload_n 3, 1) := by decide +kernel
theorem d_law_700 : decode code 700 = .ok (.iconst 1, 1) := by decide +kernel
theorem d_law_701 : decode code 701 = .ok (.iadd, 1) := by decide +kernel
theorem d_law_702 : decode code 702 = .ok (.iaload, 1) := by decide +kernel
theorem d_law_703 : decode code 703 = .ok (.aload_n 0, 1) := by decide +kernel
theorem d_law_704 : decode code 704 = .ok (.iload_n 3, 1) := by decide +kernel
theorem d_law_705 : decode code 705 = .ok (.iconst 2, 1) := by decide +kernel
theorem d_law_706 : decode code 706 = .ok (.iadd, 1) := by decide +kernel
theorem d_law_707 : decode code 707 = .ok (.iaload, 1) := by decide +kernel
theorem d_law_708 : decode code 708 = .ok (.invokevirtual 89, 3) := by decide +kernel
theorem d_law_711 : decode code 711 = .ok (.if_icmp .eq 289, 3) := by decide +kernel
theorem d_law_714 : decode code 714 = .ok (.iconst 0, 1) := by decide +kernel
theorem d_law_715 : decode code 715 = .ok (.ireturn, 1) := by decide +kernel
theorem d_law_716 : decode code 716 = .ok (.aload_n 1, 1) := by decide +kernel
theorem d_law_717 : decode code 717 = .ok (.aload_n 0, 1) := by decide +kernel
theorem d_law_718 : decode code 718 = .ok (.iload_n 3, 1) := by decide +kernel
theorem d_law_719 : decode code 719 = .ok (.iconst 1, 1) := by decide +kernel
theorem d_law_720 : decode code 720 = .ok (.iadd, 1) := by decide +kernel
theorem d_law_721 : decode code 721 = .ok (.iaload, 1) := by decide +kernel
theorem d_law_722 : decode code 722 = .ok (.aload_n 0, 1) := by decide +kernel
theorem d_law_723 : decode code 723 = .ok (.iload_n 3, 1) := by decide +kernel
theorem d_law_724 : decode code 724 = .ok (.iconst 2, 1) := by decide +kernel
theorem d_law_725 : decode code 725 = .ok (.iadd, 1) := by decide +kernel
theorem d_law_726 : decode code 726 = .ok (.iaload, 1) := by decide +kernel
theorem d_law_727 : decode code 727 = .ok (.aload_n 0, 1) := by decide +kernel
theorem d_law_728 : decode code 728 = .ok (.iload_n 3, 1) := by decide +kernel
theorem d_law_729 : decode code 729 = .ok (.iconst 3, 1) := by decide +kernel
theorem d_law_730 : decode code 730 = .ok (.iadd, 1) := by decide +kernel
theorem d_law_731 : decode code 731 = .ok (.iaload, 1) := by decide +kernel
theorem d_law_732 : decode code 732 = .ok (.invokevirtual 90, 3) := by decide +kernel
theorem d_law_735 : decode code 735 = .ok (.aload_n 2, 1) := by decide +kernel
theorem d_law_736 : decode code 736 = .ok (.aload_n 0, 1) := by decide +kernel
theorem d_law_737 : decode code 737 = .ok (.iload_n 3, 1) := by decide +kernel
theorem d_law_738 : decode code 738 = .ok (.iconst 1, 1) := by decide +kernel
theorem d_law_739 : decode code 739 = .ok (.iadd, 1) := by decide +kernel
theorem d_law_740 : decode code 740 = .ok (.iaload, 1) := by decide +kernel
theorem d_law_741 : decode code 741 = .ok (.aload_n 0, 1) := by decide +kernel
theorem d_law_742 : decode code 742 = .ok (.iload_n 3, 1) := by decide +kernel
theorem d_law_743 : decode code 743 = .ok (.iconst 2, 1) := by decide +kernel
theorem d_law_744 : decode code 744 = .ok (.iadd, 1) := by decide +kernel
theorem d_law_745 : decode code 745 = .ok (.iaload, 1) := by decide +kernel
theorem d_law_746 : decode code 746 = .ok (.aload_n 0, 1) := by decide +kernel
theorem d_law_747 : decode code 747 = .ok (.iload_n 3, 1) := by decide +kernel
theorem d_law_748 : decode code 748 = .ok (.iconst 3, 1) := by decide +kernel
theorem d_law_749 : decode code 749 = .ok (.iadd, 1) := by decide +kernel
theorem d_law_750 : decode code 750 = .ok (.iaload, 1) := by decide +kernel
theorem d_law_751 : decode code 751 = .ok (.invokevirtual 93, 3) := by decide +kernel
theorem d_law_754 : decode code 754 = .ok (.if_icmp .eq 246, 3) := by decide +kernel
theorem d_law_757 : decode code 757 = .ok (.iconst 0, 1) := by decide +kernel
theorem d_law_758 : decode code 758 = .ok (.ireturn, 1) := by decide +kernel
theorem d_law_759 : decode code 759 = .ok (.aload_n 1, 1) := by decide +kernel
theorem d_law_760 : decode code 760 = .ok (.aload_n 0, 1) := by decide +kernel
theorem d_law_761 : decode code 761 = .ok (.iload_n 3, 1) := by decide +kernel
theorem d_law_762 : decode code 762 = .ok (.iconst 1, 1) := by decide +kernel
theorem d_law_763 : decode code 763 = .ok (.iadd, 1) := by decide +kernel
theorem d_law_764 : decode code 764 = .ok (.iaload, 1) := by decide +kernel
theorem d_law_765 : decode code 765 = .ok (.aload_n 0, 1) := by decide +kernel
theorem d_law_766 : decode code 766 = .ok (.iload_n 3, 1) := by decide +kernel
theorem d_law_767 : decode code 767 = .ok (.iconst 2, 1) := by decide +kernel
theorem d_law_768 : decode code 768 = .ok (.iadd, 1) := by decide +kernel
theorem d_law_769 : decode code 769 = .ok (.iaload, 1) := by decide +kernel
theorem d_law_770 : decode code 770 = .ok (.invokevirtual 94, 3) := by decide +kernel
theorem d_law_773 : decode code 773 = .ok (.aload_n 2, 1) := by decide +kernel
theorem d_law_774 : decode code 774 = .ok (.aload_n 0, 1) := by decide +kernel
theorem d_law_775 : decode code 775 = .ok (.iload_n 3, 1) := by decide +kernel
theorem d_law_776 : decode code 776 = .ok (.iconst 1, 1) := by decide +kernel
theorem d_law_777 : decode code 777 = .ok (.iadd, 1) := by decide +kernel
theorem d_law_778 : decode code 778 = .ok (.iaload, 1) := by decide +kernel
theorem d_law_779 : decode code 779 = .ok (.aload_n 0, 1) := by decide +kernel
theorem d_law_780 : decode code 780 = .ok (.iload_n 3, 1) := by decide +kernel
theorem d_law_781 : decode code 781 = .ok (.iconst 2, 1) := by decide +kernel
theorem d_law_782 : decode code 782 = .ok (.iadd, 1) := by decide +kernel
theorem d_law_783 : decode code 783 = .ok (.iaload, 1) := by decide +kernel
theorem d_law_784 : decode code 784 = .ok (.invokevirtual 97, 3) := by decide +kernel
theorem d_law_787 : decode code 787 = .ok (.if_icmp .eq 213, 3) := by decide +kernel
theorem d_law_790 : decode code 790 = .ok (.iconst 0, 1) := by decide +kernel
theorem d_law_791 : decode code 791 = .ok (.ireturn, 1) := by decide +kernel
theorem d_law_792 : decode code 792 = .ok (.aload_n 1, 1) := by decide +kernel
theorem d_law_793 : decode code 793 = .ok (.aload_n 0, 1) := by decide +kernel
theorem d_law_794 : decode code 794 = .ok (.iload_n 3, 1) := by decide +kernel
theorem d_law_795 : decode code 795 = .ok (.iconst 1, 1) := by decide +kernel
theorem d_law_796 : decode code 796 = .ok (.iadd, 1) := by decide +kernel
theorem d_law_797 : decode code 797 = .ok (.iaload, 1) := by decide +kernel
theorem d_law_798 : decode code 798 = .ok (.invokevirtual 98, 3) := by decide +kernel
theorem d_law_801 : decode code 801 = .ok (.aload_n 2, 1) := by decide +kernel
theorem d_law_802 : decode code 802 = .ok (.aload_n 0, 1) := by decide +kernel
theorem d_law_803 : decode code 803 = .ok (.iload_n 3, 1) := by decide +kernel
theorem d_law_804 : decode code 804 = .ok (.iconst 1, 1) := by decide +kernel
theorem d_law_805 : decode code 805 = .ok (.iadd, 1) := by decide +kernel
theorem d_law_806 : decode code 806 = .ok (.iaload, 1) := by decide +kernel
theorem d_law_807 : decode code 807 = .ok (.invokevirtual 101, 3) := by decide +kernel
theorem d_law_810 : decode code 810 = .ok (.if_icmp .eq 190, 3) := by decide +kernel
theorem d_law_813 : decode code 813 = .ok (.iconst 0, 1) := by decide +kernel
theorem d_law_814 : decode code 814 = .ok (.ireturn, 1) := by decide +kernel
theorem d_law_815 : decode code 815 = .ok (.aload_n 1, 1) := by decide +kernel
theorem d_law_816 : decode code 816 = .ok (.aload_n 0, 1) := by decide +kernel
theorem d_law_817 : decode code 817 = .ok (.iload_n 3, 1) := by decide +kernel
theorem d_law_818 : decode code 818 = .ok (.iconst 1, 1) := by decide +kernel
theorem d_law_819 : decode code 819 = .ok (.iadd, 1) := by decide +kernel
theorem d_law_820 : decode code 820 = .ok (.iaload, 1) := by decide +kernel
theorem d_law_821 : decode code 821 = .ok (.aload_n 0, 1) := by decide +kernel
theorem d_law_822 : decode code 822 = .ok (.iload_n 3, 1) := by decide +kernel
theorem d_law_823 : decode code 823 = .ok (.iconst 2, 1) := by decide +kernel
theorem d_law_824 : decode code 824 = .ok (.iadd, 1) := by decide +kernel
theorem d_law_825 : decode code 825 = .ok (.iaload, 1) := by decide +kernel
theorem d_law_826 : decode code 826 = .ok (.aload_n 0, 1) := by decide +kernel
theorem d_law_827 : decode code 827 = .ok (.iload_n 3, 1) := by decide +kernel
theorem d_law_828 : decode code 828 = .ok (.iconst 3, 1) := by decide +kernel
theorem d_law_829 : decode code 829 = .ok (.iadd, 1) := by decide +kernel
theorem d_law_830 : decode code 830 = .ok (.iaload, 1) := by decide +kernel
theorem d_law_831 : decode code 831 = .ok (.aload_n 0, 1) := by decide +kernel
theorem d_law_832 : decode code 832 = .ok (.iload_n 3, 1) := by decide +kernel
theorem d_law_833 : decode code 833 = .ok (.iconst 4, 1) := by decide +kernel
theorem d_law_834 : decode code 834 = .ok (.iadd, 1) := by decide +kernel
theorem d_law_835 : decode code 835 = .ok (.iaload, 1) := by decide +kernel
theorem d_law_836 : decode code 836 = .ok (.invokevirtual 102, 3) := by decide +kernel
theorem d_law_839 : decode code 839 = .ok (.aload_n 2, 1) := by decide +kernel
theorem d_law_840 : decode code 840 = .ok (.aload_n 0, 1) := by decide +kernel
theorem d_law_841 : decode code 841 = .ok (.iload_n 3, 1) := by decide +kernel
theorem d_law_842 : decode code 842 = .ok (.iconst 1, 1) := by decide +kernel
theorem d_law_843 : decode code 843 = .ok (.iadd, 1) := by decide +kernel
theorem d_law_844 : decode code 844 = .ok (.iaload, 1) := by decide +kernel
theorem d_law_845 : decode code 845 = .ok (.aload_n 0, 1) := by decide +kernel
theorem d_law_846 : decode code 846 = .ok (.iload_n 3, 1) := by decide +kernel
theorem d_law_847 : decode code 847 = .ok (.iconst 2, 1) := by decide +kernel
theorem d_law_848 : decode code 848 = .ok (.iadd, 1) := by decide +kernel
theorem d_law_849 : decode code 849 = .ok (.iaload, 1) := by decide +kernel
theorem d_law_850 : decode code 850 = .ok (.aload_n 0, 1) := by decide +kernel
theorem d_law_851 : decode code 851 = .ok (.iload_n 3, 1) := by decide +kernel
theorem d_law_852 : decode code 852 = .ok (.iconst 3, 1) := by decide +kernel
theorem d_law_853 : decode code 853 = .ok (.iadd, 1) := by decide +kernel
theorem d_law_854 : decode code 854 = .ok (.iaload, 1) := by decide +kernel
theorem d_law_855 : decode code 855 = .ok (.aload_n 0, 1) := by decide +kernel
theorem d_law_856 : decode code 856 = .ok (.iload_n 3, 1) := by decide +kernel
theorem d_law_857 : decode code 857 = .ok (.iconst 4, 1) := by decide +kernel
theorem d_law_858 : decode code 858 = .ok (.iadd, 1) := by decide +kernel
theorem d_law_859 : decode code 859 = .ok (.iaload, 1) := by decide +kernel
theorem d_law_860 : decode code 860 = .ok (.invokevirtual 106, 3) := by decide +kernel
theorem d_law_863 : decode code 863 = .ok (.if_icmp .eq 137, 3) := by decide +kernel
theorem d_law_866 : decode code 866 = .ok (.iconst 0, 1) := by decide +kernel
theorem d_law_867 : decode code 867 = .ok (.ireturn, 1) := by decide +kernel
theorem d_law_868 : decode code 868 = .ok (.aload_n 1, 1) := by decide +kernel
theorem d_law_869 : decode code 869 = .ok (.aload_n 0, 1) := by decide +kernel
theorem d_law_870 : decode code 870 = .ok (.iload_n 3, 1) := by decide +kernel
theorem d_law_871 : decode code 871 = .ok (.iconst 1, 1) := by decide +kernel
theorem d_law_872 : decode code 872 = .ok (.iadd, 1) := by decide +kernel
theorem d_law_873 : decode code 873 = .ok (.iaload, 1) := by decide +kernel
theorem d_law_874 : decode code 874 = .ok (.aload_n 0, 1) := by decide +kernel
theorem d_law_875 : decode code 875 = .ok (.iload_n 3, 1) := by decide +kernel
theorem d_law_876 : decode code 876 = .ok (.iconst 2, 1) := by decide +kernel
theorem d_law_877 : decode code 877 = .ok (.iadd, 1) := by decide +kernel
theorem d_law_878 : decode code 878 = .ok (.iaload, 1) := by decide +kernel
theorem d_law_879 : decode code 879 = .ok (.aload_n 0, 1) := by decide +kernel
theorem d_law_880 : decode code 880 = .ok (.iload_n 3, 1) := by decide +kernel
theorem d_law_881 : decode code 881 = .ok (.iconst 3, 1) := by decide +kernel
theorem d_law_882 : decode code 882 = .ok (.iadd, 1) := by decide +kernel
theorem d_law_883 : decode code 883 = .ok (.iaload, 1) := by decide +kernel
theorem d_law_884 : decode code 884 = .ok (.invokevirtual 107, 3) := by decide +kernel
theorem d_law_887 : decode code 887 = .ok (.aload_n 2, 1) := by decide +kernel
theorem d_law_888 : decode code 888 = .ok (.aload_n 0, 1) := by decide +kernel
theorem d_law_889 : decode code 889 = .ok (.iload_n 3, 1) := by decide +kernel
theorem d_law_890 : decode code 890 = .ok (.iconst 1, 1) := by decide +kernel
theorem d_law_891 : decode code 891 = .ok (.iadd, 1) := by decide +kernel
theorem d_law_892 : decode code 892 = .ok (.iaload, 1) := by decide +kernel
theorem d_law_893 : decode code 893 = .ok (.aload_n 0, 1) := by decide +kernel
theorem d_law_894 : decode code 894 = .ok (.iload_n 3, 1) := by decide +kernel
theorem d_law_895 : decode code 895 = .ok (.iconst 2, 1) := by decide +kernel
theorem d_law_896 : decode code 896 = .ok (.iadd, 1) := by decide +kernel
theorem d_law_897 : decode code 897 = .ok (.iaload, 1) := by decide +kernel
theorem d_law_898 : decode code 898 = .ok (.aload_n 0, 1) := by decide +kernel
theorem d_law_899 : decode code 899 = .ok (.iload_n 3, 1) := by decide +kernel
theorem d_law_900 : decode code 900 = .ok (.iconst 3, 1) := by decide +kernel
theorem d_law_901 : decode code 901 = .ok (.iadd, 1) := by decide +kernel
theorem d_law_902 : decode code 902 = .ok (.iaload, 1) := by decide +kernel
theorem d_law_903 : decode code 903 = .ok (.invokevirtual 110, 3) := by decide +kernel
theorem d_law_906 : decode code 906 = .ok (.if_icmp .eq 94, 3) := by decide +kernel
theorem d_law_909 : decode code 909 = .ok (.iconst 0, 1) := by decide +kernel
theorem d_law_910 : decode code 910 = .ok (.ireturn, 1) := by decide +kernel
theorem d_law_911 : decode code 911 = .ok (.aload_n 1, 1) := by decide +kernel
theorem d_law_912 : decode code 912 = .ok (.aload_n 0, 1) := by decide +kernel
theorem d_law_913 : decode code 913 = .ok (.iload_n 3, 1) := by decide +kernel
theorem d_law_914 : decode code 914 = .ok (.iconst 1, 1) := by decide +kernel
theorem d_law_915 : decode code 915 = .ok (.iadd, 1) := by decide +kernel
theorem d_law_916 : decode code 916 = .ok (.iaload, 1) := by decide +kernel
theorem d_law_917 : decode code 917 = .ok (.aload_n 0, 1) := by decide +kernel
theorem d_law_918 : decode code 918 = .ok (.iload_n 3, 1) := by decide +kernel
theorem d_law_919 : decode code 919 = .ok (.iconst 2, 1) := by decide +kernel
theorem d_law_920 : decode code 920 = .ok (.iadd, 1) := by decide +kernel
theorem d_law_921 : decode code 921 = .ok (.iaload, 1) := by decide +kernel
theorem d_law_922 : decode code 922 = .ok (.aload_n 0, 1) := by decide +kernel
theorem d_law_923 : decode code 923 = .ok (.iload_n 3, 1) := by decide +kernel
theorem d_law_924 : decode code 924 = .ok (.iconst 3, 1) := by decide +kernel
theorem d_law_925 : decode code 925 = .ok (.iadd, 1) := by decide +kernel
theorem d_law_926 : decode code 926 = .ok (.iaload, 1) := by decide +kernel
theorem d_law_927 : decode code 927 = .ok (.invokevirtual 111, 3) := by decide +kernel
theorem d_law_930 : decode code 930 = .ok (.aload_n 2, 1) := by decide +kernel
theorem d_law_931 : decode code 931 = .ok (.aload_n 0, 1) := by decide +kernel
theorem d_law_932 : decode code 932 = .ok (.iload_n 3, 1) := by decide +kernel
theorem d_law_933 : decode code 933 = .ok (.iconst 1, 1) := by decide +kernel
theorem d_law_934 : decode code 934 = .ok (.iadd, 1) := by decide +kernel
theorem d_law_935 : decode code 935 = .ok (.iaload, 1) := by decide +kernel
theorem d_law_936 : decode code 936 = .ok (.aload_n 0, 1) := by decide +kernel
theorem d_law_937 : decode code 937 = .ok (.iload_n 3, 1) := by decide +kernel
theorem d_law_938 : decode code 938 = .ok (.iconst 2, 1) := by decide +kernel
theorem d_law_939 : decode code 939 = .ok (.iadd, 1) := by decide +kernel
theorem d_law_940 : decode code 940 = .ok (.iaload, 1) := by decide +kernel
theorem d_law_941 : decode code 941 = .ok (.aload_n 0, 1) := by decide +kernel
theorem d_law_942 : decode code 942 = .ok (.iload_n 3, 1) := by decide +kernel
theorem d_law_943 : decode code 943 = .ok (.iconst 3, 1) := by decide +kernel
theorem d_law_944 : decode code 944 = .ok (.iadd, 1) := by decide +kernel
theorem d_law_945 : decode code 945 = .ok (.iaload, 1) := by decide +kernel
theorem d_law_946 : decode code 946 = .ok (.invokevirtual 114, 3) := by decide +kernel
theorem d_law_949 : decode code 949 = .ok (.if_icmp .eq 51, 3) := by decide +kernel
theorem d_law_952 : decode code 952 = .ok (.iconst 0, 1) := by decide +kernel
theorem d_law_953 : decode code 953 = .ok (.ireturn, 1) := by decide +kernel
theorem d_law_954 : decode code 954 = .ok (.aload_n 1, 1) := by decide +kernel
theorem d_law_955 : decode code 955 = .ok (.aload_n 0, 1) := by decide +kernel
theorem d_law_956 : decode code 956 = .ok (.iload_n 3, 1) := by decide +kernel
theorem d_law_957 : decode code 957 = .ok (.iconst 1, 1) := by decide +kernel
theorem d_law_958 : decode code 958 = .ok (.iadd, 1) := by decide +kernel
theorem d_law_959 : decode code 959 = .ok (.iaload, 1) := by decide +kernel
theorem d_law_960 : decode code 960 = .ok (.invokevirtual 115, 3) := by decide +kernel
theorem d_law_963 : decode code 963 = .ok (.aload_n 2, 1) := by decide +kernel
theorem d_law_964 : decode code 964 = .ok (.aload_n 0, 1) := by decide +kernel
theorem d_law_965 : decode code 965 = .ok (.iload_n 3, 1) := by decide +kernel
theorem d_law_966 : decode code 966 = .ok (.iconst 1, 1) := by decide +kernel
theorem d_law_967 : decode code 967 = .ok (.iadd, 1) := by decide +kernel
theorem d_law_968 : decode code 968 = .ok (.iaload, 1) := by decide +kernel
theorem d_law_969 : decode code 969 = .ok (.invokevirtual 118, 3) := by decide +kernel
theorem d_law_972 : decode code 972 = .ok (.if_icmp .eq 28, 3) := by decide +kernel
theorem d_law_975 : decode code 975 = .ok (.iconst 0, 1) := by decide +kernel
theorem d_law_976 : decode code 976 = .ok (.ireturn, 1) := by decide +kernel
theorem d_law_977 : decode code 977 = .ok (.aload_n 1, 1) := by decide +kernel
theorem d_law_978 : decode code 978 = .ok (.aload_n 0, 1) := by decide +kernel
theorem d_law_979 : decode code 979 = .ok (.iload_n 3, 1) := by decide +kernel
theorem d_law_980 : decode code 980 = .ok (.iconst 1, 1) := by decide +kernel
theorem d_law_981 : decode code 981 = .ok (.iadd, 1) := by decide +kernel
theorem d_law_982 : decode code 982 = .ok (.iaload, 1) := by decide +kernel
theorem d_law_983 : decode code 983 = .ok (.invokevirtual 119, 3) := by decide +kernel
theorem d_law_986 : decode code 986 = .ok (.aload_n 2, 1) := by decide +kernel
theorem d_law_987 : decode code 987 = .ok (.aload_n 0, 1) := by decide +kernel
theorem d_law_988 : decode code 988 = .ok (.iload_n 3, 1) := by decide +kernel
theorem d_law_989 : decode code 989 = .ok (.iconst 1, 1) := by decide +kernel
theorem d_law_990 : decode code 990 = .ok (.iadd, 1) := by decide +kernel
theorem d_law_991 : decode code 991 = .ok (.iaload, 1) := by decide +kernel
theorem d_law_992 : decode code 992 = .ok (.invokevirtual 122, 3) := by decide +kernel
theorem d_law_995 : decode code 995 = .ok (.if_icmp .eq 5, 3) := by decide +kernel
theorem d_law_998 : decode code 998 = .ok (.iconst 0, 1) := by decide +kernel
theorem d_law_999 : decode code 999 = .ok (.ireturn, 1) := by decide +kernel
theorem d_law_1000 : decode code 1000 = .ok (.iinc 3 6, 3) := by decide +kernel
theorem d_law_1003 : decode code 1003 = .ok (.goto (-985), 3) := by decide +kernel
theorem d_law_1006 : decode code 1006 = .ok (.iconst 1, 1) := by decide +kernel
theorem d_law_1007 : decode code 1007 = .ok (.ireturn, 1) := by decide +kernel
theorem m_X7_feed : xMI yX7_feed FX7_feed 1 := ⟨⟨xgt_of (w := Cond.code yX7_feed FX7_feed.2.1 FX7_feed.2.2.1 FX7_feed.2.2.2) (List.mem_append_right _ (List.mem_append_left _ (List.mem_of_getElem? (i := 28) rfl))) rfl, xgt_of (w := Cond.instanceMethod yX7_feed) (List.mem_append_right _ (List.mem_append_left _ (List.mem_of_getElem? (i := 26) rfl))) rfl, xgt_of (w := Cond.selects RX7 yX7_feed yX7_feed) (List.mem_append_right _ (List.mem_append_left _ (List.mem_of_getElem? (i := 27) rfl))) rfl, xgt_of (w := Cond.initialized RX7) (List.mem_append_left _ (List.mem_of_getElem? (i := 1) rfl)) rfl⟩, ⟨by decide +kernel, by decide +kernel, by decide +kernel⟩, by decide⟩
theorem lkL_13 : Cond.methodLink R_law 13 yX7_feed ∈ xgt := xgt_of (w := Cond.methodLink R_law 13 yX7_feed) (List.mem_append_right _ (List.mem_append_left _ (List.mem_of_getElem? (i := 25) rfl))) rfl
theorem m_X8_feed : xMI yX8_feed FX8_feed 1 := ⟨⟨xgt_of (w := Cond.code yX8_feed FX8_feed.2.1 FX8_feed.2.2.1 FX8_feed.2.2.2) (List.mem_append_right _ (List.mem_append_right _ (List.mem_append_right _ (List.mem_append_left _ (List.mem_of_getElem? (i := 188) rfl))))) rfl, xgt_of (w := Cond.instanceMethod yX8_feed) (List.mem_append_right _ (List.mem_append_right _ (List.mem_append_right _ (List.mem_append_left _ (List.mem_of_getElem? (i := 186) rfl))))) rfl, xgt_of (w := Cond.selects RX8 yX8_feed yX8_feed) (List.mem_append_right _ (List.mem_append_right _ (List.mem_append_right _ (List.mem_append_left _ (List.mem_of_getElem? (i := 187) rfl))))) rfl, xgt_of (w := Cond.initialized RX8) (List.mem_append_left _ (List.mem_of_getElem? (i := 9) rfl)) rfl⟩, ⟨by decide +kernel, by decide +kernel, by decide +kernel⟩, by decide⟩
theorem lkL_17 : Cond.methodLink R_law 17 yX8_feed ∈ xgt := xgt_of (w := Cond.methodLink R_law 17 yX8_feed) (List.mem_append_right _ (List.mem_append_right _ (List.mem_append_right _ (List.mem_append_left _ (List.mem_of_getElem? (i := 185) rfl))))) rfl
theorem m_X7_end : xMI yX7_end FX7_end 1 := ⟨⟨xgt_of (w := Cond.code yX7_end FX7_end.2.1 FX7_end.2.2.1 FX7_end.2.2.2) (List.mem_append_right _ (List.mem_append_left _ (List.mem_of_getElem? (i := 39) rfl))) rfl, xgt_of (w := Cond.instanceMethod yX7_end) (List.mem_append_right _ (List.mem_append_left _ (List.mem_of_getElem? (i := 37) rfl))) rfl, xgt_of (w := Cond.selects RX7 yX7_end yX7_end) (List.mem_append_right _ (List.mem_append_left _ (List.mem_of_getElem? (i := 38) rfl))) rfl, xgt_of (w := Cond.initialized RX7) (List.mem_append_left _ (List.mem_of_getElem? (i := 1) rfl)) rfl⟩, ⟨by decide +kernel, by decide +kernel, by decide +kernel⟩, by decide⟩
theorem lkL_18 : Cond.methodLink R_law 18 yX7_end ∈ xgt := xgt_of (w := Cond.methodLink R_law 18 yX7_end) (List.mem_append_right _ (List.mem_append_left _ (List.mem_of_getElem? (i := 36) rfl))) rfl
theorem m_X8_end : xMI yX8_end FX8_end 1 := ⟨⟨xgt_of (w := Cond.code yX8_end FX8_end.2.1 FX8_end.2.2.1 FX8_end.2.2.2) (List.mem_append_right _ (List.mem_append_right _ (List.mem_append_right _ (List.mem_append_left _ (List.mem_of_getElem? (i := 196) rfl))))) rfl, xgt_of (w := Cond.instanceMethod yX8_end) (List.mem_append_right _ (List.mem_append_right _ (List.mem_append_right _ (List.mem_append_left _ (List.mem_of_getElem? (i := 194) rfl))))) rfl, xgt_of (w := Cond.selects RX8 yX8_end yX8_end) (List.mem_append_right _ (List.mem_append_right _ (List.mem_append_right _ (List.mem_append_left _ (List.mem_of_getElem? (i := 195) rfl))))) rfl, xgt_of (w := Cond.initialized RX8) (List.mem_append_left _ (List.mem_of_getElem? (i := 9) rfl)) rfl⟩, ⟨by decide +kernel, by decide +kernel, by decide +kernel⟩, by decide⟩
theorem lkL_21 : Cond.methodLink R_law 21 yX8_end ∈ xgt := xgt_of (w := Cond.methodLink R_law 21 yX8_end) (List.mem_append_right _ (List.mem_append_right _ (List.mem_append_right _ (List.mem_append_left _ (List.mem_of_getElem? (i := 193) rfl))))) rfl
theorem m_X7_text : xMI yX7_text FX7_text 0 := ⟨⟨xgt_of (w := Cond.code yX7_text FX7_text.2.1 FX7_text.2.2.1 FX7_text.2.2.2) (List.mem_append_right _ (List.mem_append_left _ (List.mem_of_getElem? (i := 43) rfl))) rfl, xgt_of (w := Cond.instanceMethod yX7_text) (List.mem_append_right _ (List.mem_append_left _ (List.mem_of_getElem? (i := 41) rfl))) rfl, xgt_of (w := Cond.selects RX7 yX7_text yX7_text) (List.mem_append_right _ (List.mem_append_left _ (List.mem_of_getElem? (i := 42) rfl))) rfl, xgt_of (w := Cond.initialized RX7) (List.mem_append_left _ (List.mem_of_getElem? (i := 1) rfl)) rfl⟩, ⟨by decide +kernel, by decide +kernel, by decide +kernel⟩, by decide⟩
theorem lkL_22 : Cond.methodLink R_law 22 yX7_text ∈ xgt := xgt_of (w := Cond.methodLink R_law 22 yX7_text) (List.mem_append_right _ (List.mem_append_left _ (List.mem_of_getElem? (i := 40) rfl))) rfl
theorem m_X8_text : xMI yX8_text FX8_text 0 := ⟨⟨xgt_of (w := Cond.code yX8_text FX8_text.2.1 FX8_text.2.2.1 FX8_text.2.2.2) (List.mem_append_right _ (List.mem_append_right _ (List.mem_append_right _ (List.mem_append_left _ (List.mem_of_getElem? (i := 200) rfl))))) rfl, xgt_of (w := Cond.instanceMethod yX8_text) (List.mem_append_right _ (List.mem_append_right _ (List.mem_append_right _ (List.mem_append_left _ (List.mem_of_getElem? (i := 198) rfl))))) rfl, xgt_of (w := Cond.selects RX8 yX8_text yX8_text) (List.mem_append_right _ (List.mem_append_right _ (List.mem_append_right _ (List.mem_append_left _ (List.mem_of_getElem? (i := 199) rfl))))) rfl, xgt_of (w := Cond.initialized RX8) (List.mem_append_left _ (List.mem_of_getElem? (i := 9) rfl)) rfl⟩, ⟨by decide +kernel, by decide +kernel, by decide +kernel⟩, by decide⟩
theorem lkL_26 : Cond.methodLink R_law 26 yX8_text ∈ xgt := xgt_of (w := Cond.methodLink R_law 26 yX8_text) (List.mem_append_right _ (List.mem_append_right _ (List.mem_append_right _ (List.mem_append_left _ (List.mem_of_getElem? (i := 197) rfl))))) rfl
theorem m_X7_fault : xMI yX7_fault FX7_fault 0 := ⟨⟨xgt_of (w := Cond.code yX7_fault FX7_fault.2.1 FX7_fault.2.2.1 FX7_fault.2.2.2) (List.mem_append_right _ (List.mem_append_right _ (List.mem_append_left _ (List.mem_of_getElem? (i := 30) rfl)))) rfl, xgt_of (w := Cond.instanceMethod yX7_fault) (List.mem_append_right _ (List.mem_append_right _ (List.mem_append_left _ (List.mem_of_getElem? (i := 28) rfl)))) rfl, xgt_of (w := Cond.selects RX7 yX7_fault yX7_fault) (List.mem_append_right _ (List.mem_append_right _ (List.mem_append_left _ (List.mem_of_getElem? (i := 29) rfl)))) rfl, xgt_of (w := Cond.initialized RX7) (List.mem_append_left _ (List.mem_of_getElem? (i := 1) rfl)) rfl⟩, ⟨by decide +kernel, by decide +kernel, by decide +kernel⟩, by decide⟩
theorem lkL_27 : Cond.methodLink R_law 27 yX7_fault ∈ xgt := xgt_of (w := Cond.methodLink R_law 27 yX7_fault) (List.mem_append_right _ (List.mem_append_right _ (List.mem_append_left _ (List.mem_of_getElem? (i := 27) rfl)))) rfl
theorem m_X8_fault : xMI yX8_fault FX8_fault 0 := ⟨⟨xgt_of (w := Cond.code yX8_fault FX8_fault.2.1 FX8_fault.2.2.1 FX8_fault.2.2.2) (List.mem_append_right _ (List.mem_append_right _ (List.mem_append_right _ (List.mem_append_right _ (List.mem_append_left _ (List.mem_of_getElem? (i := 34) rfl)))))) rfl, xgt_of (w := Cond.instanceMethod yX8_fault) (List.mem_append_right _ (List.mem_append_right _ (List.mem_append_right _ (List.mem_append_right _ (List.mem_append_left _ (List.mem_of_getElem? (i := 32) rfl)))))) rfl, xgt_of (w := Cond.selects RX8 yX8_fault yX8_fault) (List.mem_append_right _ (List.mem_append_right _ (List.mem_append_right _ (List.mem_append_right _ (List.mem_append_left _ (List.mem_of_getElem? (i := 33) rfl)))))) rfl, xgt_of (w := Cond.initialized RX8) (List.mem_append_left _ (List.mem_of_getElem? (i := 9) rfl)) rfl⟩, ⟨by decide +kernel, by decide +kernel, by decide +kernel⟩, by decide⟩
theorem lkL_30 : Cond.methodLink R_law 30 yX8_fault ∈ xgt := xgt_of (w := Cond.methodLink R_law 30 yX8_fault) (List.mem_append_right _ (List.mem_append_right _ (List.mem_append_right _ (List.mem_append_right _ (List.mem_append_left _ (List.mem_of_getElem? (i := 31) rfl)))))) rfl
theorem m_X7_level : xMI yX7_level FX7_level 1 := ⟨⟨xgt_of (w := Cond.code yX7_level FX7_level.2.1 FX7_level.2.2.1 FX7_level.2.2.2) (List.mem_append_right _ (List.mem_append_right _ (List.mem_append_left _ (List.mem_of_getElem? (i := 34) rfl)))) rfl, xgt_of (w := Cond.instanceMethod yX7_level) (List.mem_append_right _ (List.mem_append_right _ (List.mem_append_left _ (List.mem_of_getElem? (i := 32) rfl)))) rfl, xgt_of (w := Cond.selects RX7 yX7_level yX7_level) (List.mem_append_right _ (List.mem_append_right _ (List.mem_append_left _ (List.mem_of_getElem? (i := 33) rfl)))) rfl, xgt_of (w := Cond.initialized RX7) (List.mem_append_left _ (List.mem_of_getElem? (i := 1) rfl)) rfl⟩, ⟨by decide +kernel, by decide +kernel, by decide +kernel⟩, by decide⟩
theorem lkL_31 : Cond.methodLink R_law 31 yX7_level ∈ xgt := xgt_of (w := Cond.methodLink R_law 31 yX7_level) (List.mem_append_right _ (List.mem_append_right _ (List.mem_append_left _ (List.mem_of_getElem? (i := 31) rfl)))) rfl
theorem m_X8_level : xMI yX8_level FX8_level 1 := ⟨⟨xgt_of (w := Cond.code yX8_level FX8_level.2.1 FX8_level.2.2.1 FX8_level.2.2.2) (List.mem_append_right _ (List.mem_append_right _ (List.mem_append_right _ (List.mem_append_right _ (List.mem_append_left _ (List.mem_of_getElem? (i := 38) rfl)))))) rfl, xgt_of (w := Cond.instanceMethod yX8_level) (List.mem_append_right _ (List.mem_append_right _ (List.mem_append_right _ (List.mem_append_right _ (List.mem_append_left _ (List.mem_of_getElem? (i := 36) rfl)))))) rfl, xgt_of (w := Cond.selects RX8 yX8_level yX8_level) (List.mem_append_right _ (List.mem_append_right _ (List.mem_append_right _ (List.mem_append_right _ (List.mem_append_left _ (List.mem_of_getElem? (i := 37) rfl)))))) rfl, xgt_of (w := Cond.initialized RX8) (List.mem_append_left _ (List.mem_of_getElem? (i := 9) rfl)) rfl⟩, ⟨by decide +kernel, by decide +kernel, by decide +kernel⟩, by decide⟩
theorem lkL_34 : Cond.methodLink R_law 34 yX8_level ∈ xgt := xgt_of (w := Cond.methodLink R_law 34 yX8_level) (List.mem_append_right _ (List.mem_append_right _ (List.mem_append_right _ (List.mem_append_right _ (List.mem_append_left _ (List.mem_of_getElem? (i := 35) rfl)))))) rfl
theorem m_X7_top : xMI yX7_top FX7_top 0 := ⟨⟨xgt_of (w := Cond.code yX7_top FX7_top.2.1 FX7_top.2.2.1 FX7_top.2.2.2) (List.mem_append_right _ (List.mem_append_right _ (List.mem_append_left _ (List.mem_of_getElem? (i := 43) rfl)))) rfl, xgt_of (w := Cond.instanceMethod yX7_top) (List.mem_append_right _ (List.mem_append_right _ (List.mem_append_left _ (List.mem_of_getElem? (i := 41) rfl)))) rfl, xgt_of (w := Cond.selects RX7 yX7_top yX7_top) (List.mem_append_right _ (List.mem_append_right _ (List.mem_append_left _ (List.mem_of_getElem? (i := 42) rfl)))) rfl, xgt_of (w := Cond.initialized RX7) (List.mem_append_left _ (List.mem_of_getElem? (i := 1) rfl)) rfl⟩, ⟨by decide +kernel, by decide +kernel, by decide +kernel⟩, by decide⟩
theorem lkL_35 : Cond.methodLink R_law 35 yX7_top ∈ xgt := xgt_of (w := Cond.methodLink R_law 35 yX7_top) (List.mem_append_right _ (List.mem_append_right _ (List.mem_append_left _ (List.mem_of_getElem? (i := 40) rfl)))) rfl
theorem m_X8_top : xMI yX8_top FX8_top 0 := ⟨⟨xgt_of (w := Cond.code yX8_top FX8_top.2.1 FX8_top.2.2.1 FX8_top.2.2.2) (List.mem_append_right _ (List.mem_append_right _ (List.mem_append_right _ (List.mem_append_right _ (List.mem_append_left _ (List.mem_of_getElem? (i := 43) rfl)))))) rfl, xgt_of (w := Cond.instanceMethod yX8_top) (List.mem_append_right _ (List.mem_append_right _ (List.mem_append_right _ (List.mem_append_right _ (List.mem_append_left _ (List.mem_of_getElem? (i := 41) rfl)))))) rfl, xgt_of (w := Cond.selects RX8 yX8_top yX8_top) (List.mem_append_right _ (List.mem_append_right _ (List.mem_append_right _ (List.mem_append_right _ (List.mem_append_left _ (List.mem_of_getElem? (i := 42) rfl)))))) rfl, xgt_of (w := Cond.initialized RX8) (List.mem_append_left _ (List.mem_of_getElem? (i := 9) rfl)) rfl⟩, ⟨by decide +kernel, by decide +kernel, by decide +kernel⟩, by decide⟩
theorem lkL_38 : Cond.methodLink R_law 38 yX8_top ∈ xgt := xgt_of (w := Cond.methodLink R_law 38 yX8_top) (List.mem_append_right _ (List.mem_append_right _ (List.mem_append_right _ (List.mem_append_right _ (List.mem_append_left _ (List.mem_of_getElem? (i := 40) rfl)))))) rfl
theorem m_X7_wake : xMI yX7_wake FX7_wake 3 := ⟨⟨xgt_of (w := Cond.code yX7_wake FX7_wake.2.1 FX7_wake.2.2.1 FX7_wake.2.2.2) (List.mem_append_right _ (List.mem_append_right _ (List.mem_append_left _ (List.mem_of_getElem? (i := 47) rfl)))) rfl, xgt_of (w := Cond.instanceMethod yX7_wake) (List.mem_append_right _ (List.mem_append_right _ (List.mem_append_left _ (List.mem_of_getElem? (i := 45) rfl)))) rfl, xgt_of (w := Cond.selects RX7 yX7_wake yX7_wake) (List.mem_append_right _ (List.mem_append_right _ (List.mem_append_left _ (List.mem_of_getElem? (i := 46) rfl)))) rfl, xgt_of (w := Cond.initialized RX7) (List.mem_append_left _ (List.mem_of_getElem? (i := 1) rfl)) rfl⟩, ⟨by decide +kernel, by decide +kernel, by decide +kernel⟩, by decide⟩
theorem lkL_39 : Cond.methodLink R_law 39 yX7_wake ∈ xgt := xgt_of (w := Cond.methodLink R_law 39 yX7_wake) (List.mem_append_right _ (List.mem_append_right _ (List.mem_append_left _ (List.mem_of_getElem? (i := 44) rfl)))) rfl
theorem m_X8_wake : xMI yX8_wake FX8_wake 3 := ⟨⟨xgt_of (w := Cond.code yX8_wake FX8_wake.2.1 FX8_wake.2.2.1 FX8_wake.2.2.2) (List.mem_append_right _ (List.mem_append_right _ (List.mem_append_right _ (List.mem_append_right _ (List.mem_append_left _ (List.mem_of_getElem? (i := 47) rfl)))))) rfl, xgt_of (w := Cond.instanceMethod yX8_wake) (List.mem_append_right _ (List.mem_append_right _ (List.mem_append_right _ (List.mem_append_right _ (List.mem_append_left _ (List.mem_of_getElem? (i := 45) rfl)))))) rfl, xgt_of (w := Cond.selects RX8 yX8_wake yX8_wake) (List.mem_append_right _ (List.mem_append_right _ (List.mem_append_right _ (List.mem_append_right _ (List.mem_append_left _ (List.mem_of_getElem? (i := 46) rfl)))))) rfl, xgt_of (w := Cond.initialized RX8) (List.mem_append_left _ (List.mem_of_getElem? (i := 9) rfl)) rfl⟩, ⟨by decide +kernel, by decide +kernel, by decide +kernel⟩, by decide⟩
theorem lkL_43 : Cond.methodLink R_law 43 yX8_wake ∈ xgt := xgt_of (w := Cond.methodLink R_law 43 yX8_wake) (List.mem_append_right _ (List.mem_append_right _ (List.mem_append_right _ (List.mem_append_right _ (List.mem_append_left _ (List.mem_of_getElem? (i := 44) rfl)))))) rfl
theorem m_X7_sleep : xMI yX7_sleep FX7_sleep 2 := ⟨⟨xgt_of (w := Cond.code yX7_sleep FX7_sleep.2.1 FX7_sleep.2.2.1 FX7_sleep.2.2.2) (List.mem_append_right _ (List.mem_append_right _ (List.mem_append_left _ (List.mem_of_getElem? (i := 105) rfl)))) rfl, xgt_of (w := Cond.instanceMethod yX7_sleep) (List.mem_append_right _ (List.mem_append_right _ (List.mem_append_left _ (List.mem_of_getElem? (i := 103) rfl)))) rfl, xgt_of (w := Cond.selects RX7 yX7_sleep yX7_sleep) (List.mem_append_right _ (List.mem_append_right _ (List.mem_append_left _ (List.mem_of_getElem? (i := 104) rfl)))) rfl, xgt_of (w := Cond.initialized RX7) (List.mem_append_left _ (List.mem_of_getElem? (i := 1) rfl)) rfl⟩, ⟨by decide +kernel, by decide +kernel, by decide +kernel⟩, by decide⟩
theorem lkL_44 : Cond.methodLink R_law 44 yX7_sleep ∈ xgt := xgt_of (w := Cond.methodLink R_law 44 yX7_sleep) (List.mem_append_right _ (List.mem_append_right _ (List.mem_append_left _ (List.mem_of_getElem? (i := 102) rfl)))) rfl
theorem m_X8_sleep : xMI yX8_sleep FX8_sleep 2 := ⟨⟨xgt_of (w := Cond.code yX8_sleep FX8_sleep.2.1 FX8_sleep.2.2.1 FX8_sleep.2.2.2) (List.mem_append_right _ (List.mem_append_right _ (List.mem_append_right _ (List.mem_append_right _ (List.mem_append_left _ (List.mem_of_getElem? (i := 98) rfl)))))) rfl, xgt_of (w := Cond.instanceMethod yX8_sleep) (List.mem_append_right _ (List.mem_append_right _ (List.mem_append_right _ (List.mem_append_right _ (List.mem_append_left _ (List.mem_of_getElem? (i := 96) rfl)))))) rfl, xgt_of (w := Cond.selects RX8 yX8_sleep yX8_sleep) (List.mem_append_right _ (List.mem_append_right _ (List.mem_append_right _ (List.mem_append_right _ (List.mem_append_left _ (List.mem_of_getElem? (i := 97) rfl)))))) rfl, xgt_of (w := Cond.initialized RX8) (List.mem_append_left _ (List.mem_of_getElem? (i := 9) rfl)) rfl⟩, ⟨by decide +kernel, by decide +kernel, by decide +kernel⟩, by decide⟩
theorem lkL_48 : Cond.methodLink R_law 48 yX8_sleep ∈ xgt := xgt_of (w := Cond.methodLink R_law 48 yX8_sleep) (List.mem_append_right _ (List.mem_append_right _ (List.mem_append_right _ (List.mem_append_right _ (List.mem_append_left _ (List.mem_of_getElem? (i := 95) rfl)))))) rfl
theorem m_X7_will : xMI yX7_will FX7_will 5 := ⟨⟨xgt_of (w := Cond.code yX7_will FX7_will.2.1 FX7_will.2.2.1 FX7_will.2.2.2) (List.mem_append_right _ (List.mem_append_right _ (List.mem_append_left _ (List.mem_of_getElem? (i := 191) rfl)))) rfl, xgt_of (w := Cond.instanceMethod yX7_will) (List.mem_append_right _ (List.mem_append_right _ (List.mem_append_left _ (List.mem_of_getElem? (i := 189) rfl)))) rfl, xgt_of (w := Cond.selects RX7 yX7_will yX7_will) (List.mem_append_right _ (List.mem_append_right _ (List.mem_append_left _ (List.mem_of_getElem? (i := 190) rfl)))) rfl, xgt_of (w := Cond.initialized RX7) (List.mem_append_left _ (List.mem_of_getElem? (i := 1) rfl)) rfl⟩, ⟨by decide +kernel, by decide +kernel, by decide +kernel⟩, by decide⟩
theorem lkL_49 : Cond.methodLink R_law 49 yX7_will ∈ xgt := xgt_of (w := Cond.methodLink R_law 49 yX7_will) (List.mem_append_right _ (List.mem_append_right _ (List.mem_append_left _ (List.mem_of_getElem? (i := 188) rfl)))) rfl
theorem m_X8_will : xMI yX8_will FX8_will 5 := ⟨⟨xgt_of (w := Cond.code yX8_will FX8_will.2.1 FX8_will.2.2.1 FX8_will.2.2.2) (List.mem_append_right _ (List.mem_append_right _ (List.mem_append_right _ (List.mem_append_right _ (List.mem_append_left _ (List.mem_of_getElem? (i := 165) rfl)))))) rfl, xgt_of (w := Cond.instanceMethod yX8_will) (List.mem_append_right _ (List.mem_append_right _ (List.mem_append_right _ (List.mem_append_right _ (List.mem_append_left _ (List.mem_of_getElem? (i := 163) rfl)))))) rfl, xgt_of (w := Cond.selects RX8 yX8_will yX8_will) (List.mem_append_right _ (List.mem_append_right _ (List.mem_append_right _ (List.mem_append_right _ (List.mem_append_left _ (List.mem_of_getElem? (i := 164) rfl)))))) rfl, xgt_of (w := Cond.initialized RX8) (List.mem_append_left _ (List.mem_of_getElem? (i := 9) rfl)) rfl⟩, ⟨by decide +kernel, by decide +kernel, by decide +kernel⟩, by decide⟩
theorem lkL_53 : Cond.methodLink R_law 53 yX8_will ∈ xgt := xgt_of (w := Cond.methodLink R_law 53 yX8_will) (List.mem_append_right _ (List.mem_append_right _ (List.mem_append_right _ (List.mem_append_right _ (List.mem_append_left _ (List.mem_of_getElem? (i := 162) rfl)))))) rfl
theorem m_X7_subscribe : xMI yX7_subscribe FX7_subscribe 3 := ⟨⟨xgt_of (w := Cond.code yX7_subscribe FX7_subscribe.2.1 FX7_subscribe.2.2.1 FX7_subscribe.2.2.2) (List.mem_append_right _ (List.mem_append_right _ (List.mem_append_left _ (List.mem_of_getElem? (i := 209) rfl)))) rfl, xgt_of (w := Cond.instanceMethod yX7_subscribe) (List.mem_append_right _ (List.mem_append_right _ (List.mem_append_left _ (List.mem_of_getElem? (i := 207) rfl)))) rfl, xgt_of (w := Cond.selects RX7 yX7_subscribe yX7_subscribe) (List.mem_append_right _ (List.mem_append_right _ (List.mem_append_left _ (List.mem_of_getElem? (i := 208) rfl)))) rfl, xgt_of (w := Cond.initialized RX7) (List.mem_append_left _ (List.mem_of_getElem? (i := 1) rfl)) rfl⟩, ⟨by decide +kernel, by decide +kernel, by decide +kernel⟩, by decide⟩
theorem lkL_54 : Cond.methodLink R_law 54 yX7_subscribe ∈ xgt := xgt_of (w := Cond.methodLink R_law 54 yX7_subscribe) (List.mem_append_right _ (List.mem_append_right _ (List.mem_append_left _ (List.mem_of_getElem? (i := 206) rfl)))) rfl
theorem m_X8_subscribe : xMI yX8_subscribe FX8_subscribe 3 := ⟨⟨xgt_of (w := Cond.code yX8_subscribe FX8_subscribe.2.1 FX8_subscribe.2.2.1 FX8_subscribe.2.2.2) (List.mem_append_right _ (List.mem_append_right _ (List.mem_append_right _ (List.mem_append_right _ (List.mem_append_left _ (List.mem_of_getElem? (i := 175) rfl)))))) rfl, xgt_of (w := Cond.instanceMethod yX8_subscribe) (List.mem_append_right _ (List.mem_append_right _ (List.mem_append_right _ (List.mem_append_right _ (List.mem_append_left _ (List.mem_of_getElem? (i := 173) rfl)))))) rfl, xgt_of (w := Cond.selects RX8 yX8_subscribe yX8_subscribe) (List.mem_append_right _ (List.mem_append_right _ (List.mem_append_right _ (List.mem_append_right _ (List.mem_append_left _ (List.mem_of_getElem? (i := 174) rfl)))))) rfl, xgt_of (w := Cond.initialized RX8) (List.mem_append_left _ (List.mem_of_getElem? (i := 9) rfl)) rfl⟩, ⟨by decide +kernel, by decide +kernel, by decide +kernel⟩, by decide⟩
theorem lkL_57 : Cond.methodLink R_law 57 yX8_subscribe ∈ xgt := xgt_of (w := Cond.methodLink R_law 57 yX8_subscribe) (List.mem_append_right _ (List.mem_append_right _ (List.mem_append_right _ (List.mem_append_right _ (List.mem_append_left _ (List.mem_of_getElem? (i := 172) rfl)))))) rfl
theorem m_X7_leave : xMI yX7_leave FX7_leave 2 := ⟨⟨xgt_of (w := Cond.code yX7_leave FX7_leave.2.1 FX7_leave.2.2.1 FX7_leave.2.2.2) (List.mem_append_right _ (List.mem_append_right _ (List.mem_append_left _ (List.mem_of_getElem? (i := 218) rfl)))) rfl, xgt_of (w := Cond.instanceMethod yX7_leave) (List.mem_append_right _ (List.mem_append_right _ (List.mem_append_left _ (List.mem_of_getElem? (i := 216) rfl)))) rfl, xgt_of (w := Cond.selects RX7 yX7_leave yX7_leave) (List.mem_append_right _ (List.mem_append_right _ (List.mem_append_left _ (List.mem_of_getElem? (i := 217) rfl)))) rfl, xgt_of (w := Cond.initialized RX7) (List.mem_append_left _ (List.mem_of_getElem? (i := 1) rfl)) rfl⟩, ⟨by decide +kernel, by decide +kernel, by decide +kernel⟩, by decide⟩
theorem lkL_58 : Cond.methodLink R_law 58 yX7_leave ∈ xgt := xgt_of (w := Cond.methodLink R_law 58 yX7_leave) (List.mem_append_right _ (List.mem_append_right _ (List.mem_append_left _ (List.mem_of_getElem? (i := 215) rfl)))) rfl
theorem m_X8_leave : xMI yX8_leave FX8_leave 2 := ⟨⟨xgt_of (w := Cond.code yX8_leave FX8_leave.2.1 FX8_leave.2.2.1 FX8_leave.2.2.2) (List.mem_append_right _ (List.mem_append_right _ (List.mem_append_right _ (List.mem_append_right _ (List.mem_append_left _ (List.mem_of_getElem? (i := 184) rfl)))))) rfl, xgt_of (w := Cond.instanceMethod yX8_leave) (List.mem_append_right _ (List.mem_append_right _ (List.mem_append_right _ (List.mem_append_right _ (List.mem_append_left _ (List.mem_of_getElem? (i := 182) rfl)))))) rfl, xgt_of (w := Cond.selects RX8 yX8_leave yX8_leave) (List.mem_append_right _ (List.mem_append_right _ (List.mem_append_right _ (List.mem_append_right _ (List.mem_append_left _ (List.mem_of_getElem? (i := 183) rfl)))))) rfl, xgt_of (w := Cond.initialized RX8) (List.mem_append_left _ (List.mem_of_getElem? (i := 9) rfl)) rfl⟩, ⟨by decide +kernel, by decide +kernel, by decide +kernel⟩, by decide⟩
theorem lkL_61 : Cond.methodLink R_law 61 yX8_leave ∈ xgt := xgt_of (w := Cond.methodLink R_law 61 yX8_leave) (List.mem_append_right _ (List.mem_append_right _ (List.mem_append_right _ (List.mem_append_right _ (List.mem_append_left _ (List.mem_of_getElem? (i := 181) rfl)))))) rfl
theorem m_X7_alias : xMI yX7_alias FX7_alias 2 := ⟨⟨xgt_of (w := Cond.code yX7_alias FX7_alias.2.1 FX7_alias.2.2.1 FX7_alias.2.2.2) (List.mem_append_right _ (List.mem_append_right _ (List.mem_append_left _ (List.mem_of_getElem? (i := 225) rfl)))) rfl, xgt_of (w := Cond.instanceMethod yX7_alias) (List.mem_append_right _ (List.mem_append_right _ (List.mem_append_left _ (List.mem_of_getElem? (i := 223) rfl)))) rfl, xgt_of (w := Cond.selects RX7 yX7_alias yX7_alias) (List.mem_append_right _ (List.mem_append_right _ (List.mem_append_left _ (List.mem_of_getElem? (i := 224) rfl)))) rfl, xgt_of (w := Cond.initialized RX7) (List.mem_append_left _ (List.mem_of_getElem? (i := 1) rfl)) rfl⟩, ⟨by decide +kernel, by decide +kernel, by decide +kernel⟩, by decide⟩
theorem lkL_62 : Cond.methodLink R_law 62 yX7_alias ∈ xgt := xgt_of (w := Cond.methodLink R_law 62 yX7_alias) (List.mem_append_right _ (List.mem_append_right _ (List.mem_append_left _ (List.mem_of_getElem? (i := 222) rfl)))) rfl
theorem m_X8_alias : xMI yX8_alias FX8_alias 2 := ⟨⟨xgt_of (w := Cond.code yX8_alias FX8_alias.2.1 FX8_alias.2.2.1 FX8_alias.2.2.2) (List.mem_append_right _ (List.mem_append_right _ (List.mem_append_right _ (List.mem_append_right _ (List.mem_append_left _ (List.mem_of_getElem? (i := 188) rfl)))))) rfl, xgt_of (w := Cond.instanceMethod yX8_alias) (List.mem_append_right _ (List.mem_append_right _ (List.mem_append_right _ (List.mem_append_right _ (List.mem_append_left _ (List.mem_of_getElem? (i := 186) rfl)))))) rfl, xgt_of (w := Cond.selects RX8 yX8_alias yX8_alias) (List.mem_append_right _ (List.mem_append_right _ (List.mem_append_right _ (List.mem_append_right _ (List.mem_append_left _ (List.mem_of_getElem? (i := 187) rfl)))))) rfl, xgt_of (w := Cond.initialized RX8) (List.mem_append_left _ (List.mem_of_getElem? (i := 9) rfl)) rfl⟩, ⟨by decide +kernel, by decide +kernel, by decide +kernel⟩, by decide⟩
theorem lkL_65 : Cond.methodLink R_law 65 yX8_alias ∈ xgt := xgt_of (w := Cond.methodLink R_law 65 yX8_alias) (List.mem_append_right _ (List.mem_append_right _ (List.mem_append_right _ (List.mem_append_right _ (List.mem_append_left _ (List.mem_of_getElem? (i := 185) rfl)))))) rfl
theorem m_X7_say : xMI yX7_say FX7_say 5 := ⟨⟨xgt_of (w := Cond.code yX7_say FX7_say.2.1 FX7_say.2.2.1 FX7_say.2.2.2) (List.mem_append_right _ (List.mem_append_right _ (List.mem_append_left _ (List.mem_of_getElem? (i := 229) rfl)))) rfl, xgt_of (w := Cond.instanceMethod yX7_say) (List.mem_append_right _ (List.mem_append_right _ (List.mem_append_left _ (List.mem_of_getElem? (i := 227) rfl)))) rfl, xgt_of (w := Cond.selects RX7 yX7_say yX7_say) (List.mem_append_right _ (List.mem_append_right _ (List.mem_append_left _ (List.mem_of_getElem? (i := 228) rfl)))) rfl, xgt_of (w := Cond.initialized RX7) (List.mem_append_left _ (List.mem_of_getElem? (i := 1) rfl)) rfl⟩, ⟨by decide +kernel, by decide +kernel, by decide +kernel⟩, by decide⟩
theorem lkL_66 : Cond.methodLink R_law 66 yX7_say ∈ xgt := xgt_of (w := Cond.methodLink R_law 66 yX7_say) (List.mem_append_right _ (List.mem_append_right _ (List.mem_append_left _ (List.mem_of_getElem? (i := 226) rfl)))) rfl
theorem m_X8_say : xMI yX8_say FX8_say 5 := ⟨⟨xgt_of (w := Cond.code yX8_say FX8_say.2.1 FX8_say.2.2.1 FX8_say.2.2.2) (List.mem_append_right _ (List.mem_append_right _ (List.mem_append_right _ (List.mem_append_right _ (List.mem_append_left _ (List.mem_of_getElem? (i := 193) rfl)))))) rfl, xgt_of (w := Cond.instanceMethod yX8_say) (List.mem_append_right _ (List.mem_append_right _ (List.mem_append_right _ (List.mem_append_right _ (List.mem_append_left _ (List.mem_of_getElem? (i := 191) rfl)))))) rfl, xgt_of (w := Cond.selects RX8 yX8_say yX8_say) (List.mem_append_right _ (List.mem_append_right _ (List.mem_append_right _ (List.mem_append_right _ (List.mem_append_left _ (List.mem_of_getElem? (i := 192) rfl)))))) rfl, xgt_of (w := Cond.initialized RX8) (List.mem_append_left _ (List.mem_of_getElem? (i := 9) rfl)) rfl⟩, ⟨by decide +kernel, by decide +kernel, by decide +kernel⟩, by decide⟩
theorem lkL_69 : Cond.methodLink R_law 69 yX8_say ∈ xgt := xgt_of (w := Cond.methodLink R_law 69 yX8_say) (List.mem_append_right _ (List.mem_append_right _ (List.mem_append_right _ (List.mem_append_right _ (List.mem_append_left _ (List.mem_of_getElem? (i := 190) rfl)))))) rfl
theorem m_X7_carry : xMI yX7_carry FX7_carry 3 := ⟨⟨xgt_of (w := Cond.code yX7_carry FX7_carry.2.1 FX7_carry.2.2.1 FX7_carry.2.2.2) (List.mem_append_right _ (List.mem_append_right _ (List.mem_append_left _ (List.mem_of_getElem? (i := 234) rfl)))) rfl, xgt_of (w := Cond.instanceMethod yX7_carry) (List.mem_append_right _ (List.mem_append_right _ (List.mem_append_left _ (List.mem_of_getElem? (i := 232) rfl)))) rfl, xgt_of (w := Cond.selects RX7 yX7_carry yX7_carry) (List.mem_append_right _ (List.mem_append_right _ (List.mem_append_left _ (List.mem_of_getElem? (i := 233) rfl)))) rfl, xgt_of (w := Cond.initialized RX7) (List.mem_append_left _ (List.mem_of_getElem? (i := 1) rfl)) rfl⟩, ⟨by decide +kernel, by decide +kernel, by decide +kernel⟩, by decide⟩
theorem lkL_70 : Cond.methodLink R_law 70 yX7_carry ∈ xgt := xgt_of (w := Cond.methodLink R_law 70 yX7_carry) (List.mem_append_right _ (List.mem_append_right _ (List.mem_append_left _ (List.mem_of_getElem? (i := 231) rfl)))) rfl
theorem m_X8_carry : xMI yX8_carry FX8_carry 3 := ⟨⟨xgt_of (w := Cond.code yX8_carry FX8_carry.2.1 FX8_carry.2.2.1 FX8_carry.2.2.2) (List.mem_append_right _ (List.mem_append_right _ (List.mem_append_right _ (List.mem_append_right _ (List.mem_append_left _ (List.mem_of_getElem? (i := 197) rfl)))))) rfl, xgt_of (w := Cond.instanceMethod yX8_carry) (List.mem_append_right _ (List.mem_append_right _ (List.mem_append_right _ (List.mem_append_right _ (List.mem_append_left _ (List.mem_of_getElem? (i := 195) rfl)))))) rfl, xgt_of (w := Cond.selects RX8 yX8_carry yX8_carry) (List.mem_append_right _ (List.mem_append_right _ (List.mem_append_right _ (List.mem_append_right _ (List.mem_append_left _ (List.mem_of_getElem? (i := 196) rfl)))))) rfl, xgt_of (w := Cond.initialized RX8) (List.mem_append_left _ (List.mem_of_getElem? (i := 9) rfl)) rfl⟩, ⟨by decide +kernel, by decide +kernel, by decide +kernel⟩, by decide⟩
theorem lkL_73 : Cond.methodLink R_law 73 yX8_carry ∈ xgt := xgt_of (w := Cond.methodLink R_law 73 yX8_carry) (List.mem_append_right _ (List.mem_append_right _ (List.mem_append_right _ (List.mem_append_right _ (List.mem_append_left _ (List.mem_of_getElem? (i := 194) rfl)))))) rfl
theorem m_X7_again : xMI yX7_again FX7_again 1 := ⟨⟨xgt_of (w := Cond.code yX7_again FX7_again.2.1 FX7_again.2.2.1 FX7_again.2.2.2) (List.mem_append_right _ (List.mem_append_right _ (List.mem_append_right _ (List.mem_append_left _ (List.mem_of_getElem? (i := 23) rfl))))) rfl, xgt_of (w := Cond.instanceMethod yX7_again) (List.mem_append_right _ (List.mem_append_right _ (List.mem_append_right _ (List.mem_append_left _ (List.mem_of_getElem? (i := 21) rfl))))) rfl, xgt_of (w := Cond.selects RX7 yX7_again yX7_again) (List.mem_append_right _ (List.mem_append_right _ (List.mem_append_right _ (List.mem_append_left _ (List.mem_of_getElem? (i := 22) rfl))))) rfl, xgt_of (w := Cond.initialized RX7) (List.mem_append_left _ (List.mem_of_getElem? (i := 1) rfl)) rfl⟩, ⟨by decide +kernel, by decide +kernel, by decide +kernel⟩, by decide⟩
theorem lkL_74 : Cond.methodLink R_law 74 yX7_again ∈ xgt := xgt_of (w := Cond.methodLink R_law 74 yX7_again) (List.mem_append_right _ (List.mem_append_right _ (List.mem_append_right _ (List.mem_append_left _ (List.mem_of_getElem? (i := 20) rfl))))) rfl
theorem m_X8_again : xMI yX8_again FX8_again 1 := ⟨⟨xgt_of (w := Cond.code yX8_again FX8_again.2.1 FX8_again.2.2.1 FX8_again.2.2.2) (List.mem_append_right _ (List.mem_append_right _ (List.mem_append_right _ (List.mem_append_right _ (List.mem_append_right _ (List.mem_of_getElem? (i := 1) rfl)))))) rfl, xgt_of (w := Cond.instanceMethod yX8_again) (List.mem_append_right _ (List.mem_append_right _ (List.mem_append_right _ (List.mem_append_right _ (List.mem_append_left _ (List.mem_of_getElem? (i := 239) rfl)))))) rfl, xgt_of (w := Cond.selects RX8 yX8_again yX8_again) (List.mem_append_right _ (List.mem_append_right _ (List.mem_append_right _ (List.mem_append_right _ (List.mem_append_right _ (List.mem_of_getElem? (i := 0) rfl)))))) rfl, xgt_of (w := Cond.initialized RX8) (List.mem_append_left _ (List.mem_of_getElem? (i := 9) rfl)) rfl⟩, ⟨by decide +kernel, by decide +kernel, by decide +kernel⟩, by decide⟩
theorem lkL_77 : Cond.methodLink R_law 77 yX8_again ∈ xgt := xgt_of (w := Cond.methodLink R_law 77 yX8_again) (List.mem_append_right _ (List.mem_append_right _ (List.mem_append_right _ (List.mem_append_right _ (List.mem_append_left _ (List.mem_of_getElem? (i := 238) rfl)))))) rfl
theorem m_X7_tick : xMI yX7_tick FX7_tick 1 := ⟨⟨xgt_of (w := Cond.code yX7_tick FX7_tick.2.1 FX7_tick.2.2.1 FX7_tick.2.2.2) (List.mem_append_right _ (List.mem_append_right _ (List.mem_append_right _ (List.mem_append_left _ (List.mem_of_getElem? (i := 28) rfl))))) rfl, xgt_of (w := Cond.instanceMethod yX7_tick) (List.mem_append_right _ (List.mem_append_right _ (List.mem_append_right _ (List.mem_append_left _ (List.mem_of_getElem? (i := 26) rfl))))) rfl, xgt_of (w := Cond.selects RX7 yX7_tick yX7_tick) (List.mem_append_right _ (List.mem_append_right _ (List.mem_append_right _ (List.mem_append_left _ (List.mem_of_getElem? (i := 27) rfl))))) rfl, xgt_of (w := Cond.initialized RX7) (List.mem_append_left _ (List.mem_of_getElem? (i := 1) rfl)) rfl⟩, ⟨by decide +kernel, by decide +kernel, by decide +kernel⟩, by decide⟩
theorem lkL_78 : Cond.methodLink R_law 78 yX7_tick ∈ xgt := xgt_of (w := Cond.methodLink R_law 78 yX7_tick) (List.mem_append_right _ (List.mem_append_right _ (List.mem_append_right _ (List.mem_append_left _ (List.mem_of_getElem? (i := 25) rfl))))) rfl
theorem m_X8_tick : xMI yX8_tick FX8_tick 1 := ⟨⟨xgt_of (w := Cond.code yX8_tick FX8_tick.2.1 FX8_tick.2.2.1 FX8_tick.2.2.2) (List.mem_append_right _ (List.mem_append_right _ (List.mem_append_right _ (List.mem_append_right _ (List.mem_append_right _ (List.mem_of_getElem? (i := 5) rfl)))))) rfl, xgt_of (w := Cond.instanceMethod yX8_tick) (List.mem_append_right _ (List.mem_append_right _ (List.mem_append_right _ (List.mem_append_right _ (List.mem_append_right _ (List.mem_of_getElem? (i := 3) rfl)))))) rfl, xgt_of (w := Cond.selects RX8 yX8_tick yX8_tick) (List.mem_append_right _ (List.mem_append_right _ (List.mem_append_right _ (List.mem_append_right _ (List.mem_append_right _ (List.mem_of_getElem? (i := 4) rfl)))))) rfl, xgt_of (w := Cond.initialized RX8) (List.mem_append_left _ (List.mem_of_getElem? (i := 9) rfl)) rfl⟩, ⟨by decide +kernel, by decide +kernel, by decide +kernel⟩, by decide⟩
theorem lkL_81 : Cond.methodLink R_law 81 yX8_tick ∈ xgt := xgt_of (w := Cond.methodLink R_law 81 yX8_tick) (List.mem_append_right _ (List.mem_append_right _ (List.mem_append_right _ (List.mem_append_right _ (List.mem_append_right _ (List.mem_of_getElem? (i := 2) rfl)))))) rfl
theorem m_X7_rule : xMI yX7_rule FX7_rule 1 := ⟨⟨xgt_of (w := Cond.code yX7_rule FX7_rule.2.1 FX7_rule.2.2.1 FX7_rule.2.2.2) (List.mem_append_right _ (List.mem_append_right _ (List.mem_append_right _ (List.mem_append_left _ (List.mem_of_getElem? (i := 36) rfl))))) rfl, xgt_of (w := Cond.instanceMethod yX7_rule) (List.mem_append_right _ (List.mem_append_right _ (List.mem_append_right _ (List.mem_append_left _ (List.mem_of_getElem? (i := 34) rfl))))) rfl, xgt_of (w := Cond.selects RX7 yX7_rule yX7_rule) (List.mem_append_right _ (List.mem_append_right _ (List.mem_append_right _ (List.mem_append_left _ (List.mem_of_getElem? (i := 35) rfl))))) rfl, xgt_of (w := Cond.initialized RX7) (List.mem_append_left _ (List.mem_of_getElem? (i := 1) rfl)) rfl⟩, ⟨by decide +kernel, by decide +kernel, by decide +kernel⟩, by decide⟩
theorem lkL_82 : Cond.methodLink R_law 82 yX7_rule ∈ xgt := xgt_of (w := Cond.methodLink R_law 82 yX7_rule) (List.mem_append_right _ (List.mem_append_right _ (List.mem_append_right _ (List.mem_append_left _ (List.mem_of_getElem? (i := 33) rfl))))) rfl
theorem m_X8_rule : xMI yX8_rule FX8_rule 1 := ⟨⟨xgt_of (w := Cond.code yX8_rule FX8_rule.2.1 FX8_rule.2.2.1 FX8_rule.2.2.2) (List.mem_append_right _ (List.mem_append_right _ (List.mem_append_right _ (List.mem_append_right _ (List.mem_append_right _ (List.mem_of_getElem? (i := 9) rfl)))))) rfl, xgt_of (w := Cond.instanceMethod yX8_rule) (List.mem_append_right _ (List.mem_append_right _ (List.mem_append_right _ (List.mem_append_right _ (List.mem_append_right _ (List.mem_of_getElem? (i := 7) rfl)))))) rfl, xgt_of (w := Cond.selects RX8 yX8_rule yX8_rule) (List.mem_append_right _ (List.mem_append_right _ (List.mem_append_right _ (List.mem_append_right _ (List.mem_append_right _ (List.mem_of_getElem? (i := 8) rfl)))))) rfl, xgt_of (w := Cond.initialized RX8) (List.mem_append_left _ (List.mem_of_getElem? (i := 9) rfl)) rfl⟩, ⟨by decide +kernel, by decide +kernel, by decide +kernel⟩, by decide⟩
theorem lkL_85 : Cond.methodLink R_law 85 yX8_rule ∈ xgt := xgt_of (w := Cond.methodLink R_law 85 yX8_rule) (List.mem_append_right _ (List.mem_append_right _ (List.mem_append_right _ (List.mem_append_right _ (List.mem_append_right _ (List.mem_of_getElem? (i := 6) rfl)))))) rfl
theorem m_X7_client : xMI yX7_client FX7_client 2 := ⟨⟨xgt_of (w := Cond.code yX7_client FX7_client.2.1 FX7_client.2.2.1 FX7_client.2.2.2) (List.mem_append_right _ (List.mem_append_right _ (List.mem_append_right _ (List.mem_append_left _ (List.mem_of_getElem? (i := 53) rfl))))) rfl, xgt_of (w := Cond.instanceMethod yX7_client) (List.mem_append_right _ (List.mem_append_right _ (List.mem_append_right _ (List.mem_append_left _ (List.mem_of_getElem? (i := 51) rfl))))) rfl, xgt_of (w := Cond.selects RX7 yX7_client yX7_client) (List.mem_append_right _ (List.mem_append_right _ (List.mem_append_right _ (List.mem_append_left _ (List.mem_of_getElem? (i := 52) rfl))))) rfl, xgt_of (w := Cond.initialized RX7) (List.mem_append_left _ (List.mem_of_getElem? (i := 1) rfl)) rfl⟩, ⟨by decide +kernel, by decide +kernel, by decide +kernel⟩, by decide⟩
theorem lkL_86 : Cond.methodLink R_law 86 yX7_client ∈ xgt := xgt_of (w := Cond.methodLink R_law 86 yX7_client) (List.mem_append_right _ (List.mem_append_right _ (List.mem_append_right _ (List.mem_append_left _ (List.mem_of_getElem? (i := 50) rfl))))) rfl
theorem m_X8_client : xMI yX8_client FX8_client 2 := ⟨⟨xgt_of (w := Cond.code yX8_client FX8_client.2.1 FX8_client.2.2.1 FX8_client.2.2.2) (List.mem_append_right _ (List.mem_append_right _ (List.mem_append_right _ (List.mem_append_right _ (List.mem_append_right _ (List.mem_of_getElem? (i := 18) rfl)))))) rfl, xgt_of (w := Cond.instanceMethod yX8_client) (List.mem_append_right _ (List.mem_append_right _ (List.mem_append_right _ (List.mem_append_right _ (List.mem_append_right _ (List.mem_of_getElem? (i := 16) rfl)))))) rfl, xgt_of (w := Cond.selects RX8 yX8_client yX8_client) (List.mem_append_right _ (List.mem_append_right _ (List.mem_append_right _ (List.mem_append_right _ (List.mem_append_right _ (List.mem_of_getElem? (i := 17) rfl)))))) rfl, xgt_of (w := Cond.initialized RX8) (List.mem_append_left _ (List.mem_of_getElem? (i := 9) rfl)) rfl⟩, ⟨by decide +kernel, by decide +kernel, by decide +kernel⟩, by decide⟩
theorem lkL_89 : Cond.methodLink R_law 89 yX8_client ∈ xgt := xgt_of (w := Cond.methodLink R_law 89 yX8_client) (List.mem_append_right _ (List.mem_append_right _ (List.mem_append_right _ (List.mem_append_right _ (List.mem_append_right _ (List.mem_of_getElem? (i := 15) rfl)))))) rfl
theorem m_X7_subscription : xMI yX7_subscription FX7_subscription 3 := ⟨⟨xgt_of (w := Cond.code yX7_subscription FX7_subscription.2.1 FX7_subscription.2.2.1 FX7_subscription.2.2.2) (List.mem_append_right _ (List.mem_append_right _ (List.mem_append_right _ (List.mem_append_left _ (List.mem_of_getElem? (i := 70) rfl))))) rfl, xgt_of (w := Cond.instanceMethod yX7_subscription) (List.mem_append_right _ (List.mem_append_right _ (List.mem_append_right _ (List.mem_append_left _ (List.mem_of_getElem? (i := 68) rfl))))) rfl, xgt_of (w := Cond.selects RX7 yX7_subscription yX7_subscription) (List.mem_append_right _ (List.mem_append_right _ (List.mem_append_right _ (List.mem_append_left _ (List.mem_of_getElem? (i := 69) rfl))))) rfl, xgt_of (w := Cond.initialized RX7) (List.mem_append_left _ (List.mem_of_getElem? (i := 1) rfl)) rfl⟩, ⟨by decide +kernel, by decide +kernel, by decide +kernel⟩, by decide⟩
theorem lkL_90 : Cond.methodLink R_law 90 yX7_subscription ∈ xgt := xgt_of (w := Cond.methodLink R_law 90 yX7_subscription) (List.mem_append_right _ (List.mem_append_right _ (List.mem_append_right _ (List.mem_append_left _ (List.mem_of_getElem? (i := 67) rfl))))) rfl
theorem m_X8_subscription : xMI yX8_subscription FX8_subscription 3 := ⟨⟨xgt_of (w := Cond.code yX8_subscription FX8_subscription.2.1 FX8_subscription.2.2.1 FX8_subscription.2.2.2) (List.mem_append_right _ (List.mem_append_right _ (List.mem_append_right _ (List.mem_append_right _ (List.mem_append_right _ (List.mem_of_getElem? (i := 27) rfl)))))) rfl, xgt_of (w := Cond.instanceMethod yX8_subscription) (List.mem_append_right _ (List.mem_append_right _ (List.mem_append_right _ (List.mem_append_right _ (List.mem_append_right _ (List.mem_of_getElem? (i := 25) rfl)))))) rfl, xgt_of (w := Cond.selects RX8 yX8_subscription yX8_subscription) (List.mem_append_right _ (List.mem_append_right _ (List.mem_append_right _ (List.mem_append_right _ (List.mem_append_right _ (List.mem_of_getElem? (i := 26) rfl)))))) rfl, xgt_of (w := Cond.initialized RX8) (List.mem_append_left _ (List.mem_of_getElem? (i := 9) rfl)) rfl⟩, ⟨by decide +kernel, by decide +kernel, by decide +kernel⟩, by decide⟩
theorem lkL_93 : Cond.methodLink R_law 93 yX8_subscription ∈ xgt := xgt_of (w := Cond.methodLink R_law 93 yX8_subscription) (List.mem_append_right _ (List.mem_append_right _ (List.mem_append_right _ (List.mem_append_right _ (List.mem_append_right _ (List.mem_of_getElem? (i := 24) rfl)))))) rfl
theorem m_X7_kept : xMI yX7_kept FX7_kept 2 := ⟨⟨xgt_of (w := Cond.code yX7_kept FX7_kept.2.1 FX7_kept.2.2.1 FX7_kept.2.2.2) (List.mem_append_right _ (List.mem_append_right _ (List.mem_append_right _ (List.mem_append_left _ (List.mem_of_getElem? (i := 79) rfl))))) rfl, xgt_of (w := Cond.instanceMethod yX7_kept) (List.mem_append_right _ (List.mem_append_right _ (List.mem_append_right _ (List.mem_append_left _ (List.mem_of_getElem? (i := 77) rfl))))) rfl, xgt_of (w := Cond.selects RX7 yX7_kept yX7_kept) (List.mem_append_right _ (List.mem_append_right _ (List.mem_append_right _ (List.mem_append_left _ (List.mem_of_getElem? (i := 78) rfl))))) rfl, xgt_of (w := Cond.initialized RX7) (List.mem_append_left _ (List.mem_of_getElem? (i := 1) rfl)) rfl⟩, ⟨by decide +kernel, by decide +kernel, by decide +kernel⟩, by decide⟩
theorem lkL_94 : Cond.methodLink R_law 94 yX7_kept ∈ xgt := xgt_of (w := Cond.methodLink R_law 94 yX7_kept) (List.mem_append_right _ (List.mem_append_right _ (List.mem_append_right _ (List.mem_append_left _ (List.mem_of_getElem? (i := 76) rfl))))) rfl
theorem m_X8_kept : xMI yX8_kept FX8_kept 2 := ⟨⟨xgt_of (w := Cond.code yX8_kept FX8_kept.2.1 FX8_kept.2.2.1 FX8_kept.2.2.2) (List.mem_append_right _ (List.mem_append_right _ (List.mem_append_right _ (List.mem_append_right _ (List.mem_append_right _ (List.mem_of_getElem? (i := 35) rfl)))))) rfl, xgt_of (w := Cond.instanceMethod yX8_kept) (List.mem_append_right _ (List.mem_append_right _ (List.mem_append_right _ (List.mem_append_right _ (List.mem_append_right _ (List.mem_of_getElem? (i := 33) rfl)))))) rfl, xgt_of (w := Cond.selects RX8 yX8_kept yX8_kept) (List.mem_append_right _ (List.mem_append_right _ (List.mem_append_right _ (List.mem_append_right _ (List.mem_append_right _ (List.mem_of_getElem? (i := 34) rfl)))))) rfl, xgt_of (w := Cond.initialized RX8) (List.mem_append_left _ (List.mem_of_getElem? (i := 9) rfl)) rfl⟩, ⟨by decide +kernel, by decide +kernel, by decide +kernel⟩, by decide⟩
theorem lkL_97 : Cond.methodLink R_law 97 yX8_kept ∈ xgt := xgt_of (w := Cond.methodLink R_law 97 yX8_kept) (List.mem_append_right _ (List.mem_append_right _ (List.mem_append_right _ (List.mem_append_right _ (List.mem_append_right _ (List.mem_of_getElem? (i := 32) rfl)))))) rfl
theorem m_X7_had : xMI yX7_had FX7_had 1 := ⟨⟨xgt_of (w := Cond.code yX7_had FX7_had.2.1 FX7_had.2.2.1 FX7_had.2.2.2) (List.mem_append_right _ (List.mem_append_right _ (List.mem_append_right _ (List.mem_append_left _ (List.mem_of_getElem? (i := 83) rfl))))) rfl, xgt_of (w := Cond.instanceMethod yX7_had) (List.mem_append_right _ (List.mem_append_right _ (List.mem_append_right _ (List.mem_append_left _ (List.mem_of_getElem? (i := 81) rfl))))) rfl, xgt_of (w := Cond.selects RX7 yX7_had yX7_had) (List.mem_append_right _ (List.mem_append_right _ (List.mem_append_right _ (List.mem_append_left _ (List.mem_of_getElem? (i := 82) rfl))))) rfl, xgt_of (w := Cond.initialized RX7) (List.mem_append_left _ (List.mem_of_getElem? (i := 1) rfl)) rfl⟩, ⟨by decide +kernel, by decide +kernel, by decide +kernel⟩, by decide⟩
theorem lkL_98 : Cond.methodLink R_law 98 yX7_had ∈ xgt := xgt_of (w := Cond.methodLink R_law 98 yX7_had) (List.mem_append_right _ (List.mem_append_right _ (List.mem_append_right _ (List.mem_append_left _ (List.mem_of_getElem? (i := 80) rfl))))) rfl
theorem m_X8_had : xMI yX8_had FX8_had 1 := ⟨⟨xgt_of (w := Cond.code yX8_had FX8_had.2.1 FX8_had.2.2.1 FX8_had.2.2.2) (List.mem_append_right _ (List.mem_append_right _ (List.mem_append_right _ (List.mem_append_right _ (List.mem_append_right _ (List.mem_of_getElem? (i := 39) rfl)))))) rfl, xgt_of (w := Cond.instanceMethod yX8_had) (List.mem_append_right _ (List.mem_append_right _ (List.mem_append_right _ (List.mem_append_right _ (List.mem_append_right _ (List.mem_of_getElem? (i := 37) rfl)))))) rfl, xgt_of (w := Cond.selects RX8 yX8_had yX8_had) (List.mem_append_right _ (List.mem_append_right _ (List.mem_append_right _ (List.mem_append_right _ (List.mem_append_right _ (List.mem_of_getElem? (i := 38) rfl)))))) rfl, xgt_of (w := Cond.initialized RX8) (List.mem_append_left _ (List.mem_of_getElem? (i := 9) rfl)) rfl⟩, ⟨by decide +kernel, by decide +kernel, by decide +kernel⟩, by decide⟩
theorem lkL_101 : Cond.methodLink R_law 101 yX8_had ∈ xgt := xgt_of (w := Cond.methodLink R_law 101 yX8_had) (List.mem_append_right _ (List.mem_append_right _ (List.mem_append_right _ (List.mem_append_right _ (List.mem_append_right _ (List.mem_of_getElem? (i := 36) rfl)))))) rfl
theorem m_X7_line : xMI yX7_line FX7_line 4 := ⟨⟨xgt_of (w := Cond.code yX7_line FX7_line.2.1 FX7_line.2.2.1 FX7_line.2.2.2) (List.mem_append_right _ (List.mem_append_right _ (List.mem_append_right _ (List.mem_append_left _ (List.mem_of_getElem? (i := 89) rfl))))) rfl, xgt_of (w := Cond.instanceMethod yX7_line) (List.mem_append_right _ (List.mem_append_right _ (List.mem_append_right _ (List.mem_append_left _ (List.mem_of_getElem? (i := 87) rfl))))) rfl, xgt_of (w := Cond.selects RX7 yX7_line yX7_line) (List.mem_append_right _ (List.mem_append_right _ (List.mem_append_right _ (List.mem_append_left _ (List.mem_of_getElem? (i := 88) rfl))))) rfl, xgt_of (w := Cond.initialized RX7) (List.mem_append_left _ (List.mem_of_getElem? (i := 1) rfl)) rfl⟩, ⟨by decide +kernel, by decide +kernel, by decide +kernel⟩, by decide⟩
theorem lkL_102 : Cond.methodLink R_law 102 yX7_line ∈ xgt := xgt_of (w := Cond.methodLink R_law 102 yX7_line) (List.mem_append_right _ (List.mem_append_right _ (List.mem_append_right _ (List.mem_append_left _ (List.mem_of_getElem? (i := 86) rfl))))) rfl
theorem m_X8_line : xMI yX8_line FX8_line 4 := ⟨⟨xgt_of (w := Cond.code yX8_line FX8_line.2.1 FX8_line.2.2.1 FX8_line.2.2.2) (List.mem_append_right _ (List.mem_append_right _ (List.mem_append_right _ (List.mem_append_right _ (List.mem_append_right _ (List.mem_of_getElem? (i := 43) rfl)))))) rfl, xgt_of (w := Cond.instanceMethod yX8_line) (List.mem_append_right _ (List.mem_append_right _ (List.mem_append_right _ (List.mem_append_right _ (List.mem_append_right _ (List.mem_of_getElem? (i := 41) rfl)))))) rfl, xgt_of (w := Cond.selects RX8 yX8_line yX8_line) (List.mem_append_right _ (List.mem_append_right _ (List.mem_append_right _ (List.mem_append_right _ (List.mem_append_right _ (List.mem_of_getElem? (i := 42) rfl)))))) rfl, xgt_of (w := Cond.initialized RX8) (List.mem_append_left _ (List.mem_of_getElem? (i := 9) rfl)) rfl⟩, ⟨by decide +kernel, by decide +kernel, by decide +kernel⟩, by decide⟩
theorem lkL_106 : Cond.methodLink R_law 106 yX8_line ∈ xgt := xgt_of (w := Cond.methodLink R_law 106 yX8_line) (List.mem_append_right _ (List.mem_append_right _ (List.mem_append_right _ (List.mem_append_right _ (List.mem_append_right _ (List.mem_of_getElem? (i := 40) rfl)))))) rfl
theorem m_X7_flight : xMI yX7_flight FX7_flight 3 := ⟨⟨xgt_of (w := Cond.code yX7_flight FX7_flight.2.1 FX7_flight.2.2.1 FX7_flight.2.2.2) (List.mem_append_right _ (List.mem_append_right _ (List.mem_append_right _ (List.mem_append_left _ (List.mem_of_getElem? (i := 93) rfl))))) rfl, xgt_of (w := Cond.instanceMethod yX7_flight) (List.mem_append_right _ (List.mem_append_right _ (List.mem_append_right _ (List.mem_append_left _ (List.mem_of_getElem? (i := 91) rfl))))) rfl, xgt_of (w := Cond.selects RX7 yX7_flight yX7_flight) (List.mem_append_right _ (List.mem_append_right _ (List.mem_append_right _ (List.mem_append_left _ (List.mem_of_getElem? (i := 92) rfl))))) rfl, xgt_of (w := Cond.initialized RX7) (List.mem_append_left _ (List.mem_of_getElem? (i := 1) rfl)) rfl⟩, ⟨by decide +kernel, by decide +kernel, by decide +kernel⟩, by decide⟩
theorem lkL_107 : Cond.methodLink R_law 107 yX7_flight ∈ xgt := xgt_of (w := Cond.methodLink R_law 107 yX7_flight) (List.mem_append_right _ (List.mem_append_right _ (List.mem_append_right _ (List.mem_append_left _ (List.mem_of_getElem? (i := 90) rfl))))) rfl
theorem m_X8_flight : xMI yX8_flight FX8_flight 3 := ⟨⟨xgt_of (w := Cond.code yX8_flight FX8_flight.2.1 FX8_flight.2.2.1 FX8_flight.2.2.2) (List.mem_append_right _ (List.mem_append_right _ (List.mem_append_right _ (List.mem_append_right _ (List.mem_append_right _ (List.mem_of_getElem? (i := 47) rfl)))))) rfl, xgt_of (w := Cond.instanceMethod yX8_flight) (List.mem_append_right _ (List.mem_append_right _ (List.mem_append_right _ (List.mem_append_right _ (List.mem_append_right _ (List.mem_of_getElem? (i := 45) rfl)))))) rfl, xgt_of (w := Cond.selects RX8 yX8_flight yX8_flight) (List.mem_append_right _ (List.mem_append_right _ (List.mem_append_right _ (List.mem_append_right _ (List.mem_append_right _ (List.mem_of_getElem? (i := 46) rfl)))))) rfl, xgt_of (w := Cond.initialized RX8) (List.mem_append_left _ (List.mem_of_getElem? (i := 9) rfl)) rfl⟩, ⟨by decide +kernel, by decide +kernel, by decide +kernel⟩, by decide⟩
theorem lkL_110 : Cond.methodLink R_law 110 yX8_flight ∈ xgt := xgt_of (w := Cond.methodLink R_law 110 yX8_flight) (List.mem_append_right _ (List.mem_append_right _ (List.mem_append_right _ (List.mem_append_right _ (List.mem_append_right _ (List.mem_of_getElem? (i := 44) rfl)))))) rfl
theorem m_X7_took : xMI yX7_took FX7_took 3 := ⟨⟨xgt_of (w := Cond.code yX7_took FX7_took.2.1 FX7_took.2.2.1 FX7_took.2.2.2) (List.mem_append_right _ (List.mem_append_right _ (List.mem_append_right _ (List.mem_append_left _ (List.mem_of_getElem? (i := 97) rfl))))) rfl, xgt_of (w := Cond.instanceMethod yX7_took) (List.mem_append_right _ (List.mem_append_right _ (List.mem_append_right _ (List.mem_append_left _ (List.mem_of_getElem? (i := 95) rfl))))) rfl, xgt_of (w := Cond.selects RX7 yX7_took yX7_took) (List.mem_append_right _ (List.mem_append_right _ (List.mem_append_right _ (List.mem_append_left _ (List.mem_of_getElem? (i := 96) rfl))))) rfl, xgt_of (w := Cond.initialized RX7) (List.mem_append_left _ (List.mem_of_getElem? (i := 1) rfl)) rfl⟩, ⟨by decide +kernel, by decide +kernel, by decide +kernel⟩, by decide⟩
theorem lkL_111 : Cond.methodLink R_law 111 yX7_took ∈ xgt := xgt_of (w := Cond.methodLink R_law 111 yX7_took) (List.mem_append_right _ (List.mem_append_right _ (List.mem_append_right _ (List.mem_append_left _ (List.mem_of_getElem? (i := 94) rfl))))) rfl
theorem m_X8_took : xMI yX8_took FX8_took 3 := ⟨⟨xgt_of (w := Cond.code yX8_took FX8_took.2.1 FX8_took.2.2.1 FX8_took.2.2.2) (List.mem_append_right _ (List.mem_append_right _ (List.mem_append_right _ (List.mem_append_right _ (List.mem_append_right _ (List.mem_of_getElem? (i := 51) rfl)))))) rfl, xgt_of (w := Cond.instanceMethod yX8_took) (List.mem_append_right _ (List.mem_append_right _ (List.mem_append_right _ (List.mem_append_right _ (List.mem_append_right _ (List.mem_of_getElem? (i := 49) rfl)))))) rfl, xgt_of (w := Cond.selects RX8 yX8_took yX8_took) (List.mem_append_right _ (List.mem_append_right _ (List.mem_append_right _ (List.mem_append_right _ (List.mem_append_right _ (List.mem_of_getElem? (i := 50) rfl)))))) rfl, xgt_of (w := Cond.initialized RX8) (List.mem_append_left _ (List.mem_of_getElem? (i := 9) rfl)) rfl⟩, ⟨by decide +kernel, by decide +kernel, by decide +kernel⟩, by decide⟩
theorem lkL_114 : Cond.methodLink R_law 114 yX8_took ∈ xgt := xgt_of (w := Cond.methodLink R_law 114 yX8_took) (List.mem_append_right _ (List.mem_append_right _ (List.mem_append_right _ (List.mem_append_right _ (List.mem_append_right _ (List.mem_of_getElem? (i := 48) rfl)))))) rfl
theorem m_X7_keep : xMI yX7_keep FX7_keep 1 := ⟨⟨xgt_of (w := Cond.code yX7_keep FX7_keep.2.1 FX7_keep.2.2.1 FX7_keep.2.2.2) (List.mem_append_right _ (List.mem_append_right _ (List.mem_append_right _ (List.mem_append_left _ (List.mem_of_getElem? (i := 101) rfl))))) rfl, xgt_of (w := Cond.instanceMethod yX7_keep) (List.mem_append_right _ (List.mem_append_right _ (List.mem_append_right _ (List.mem_append_left _ (List.mem_of_getElem? (i := 99) rfl))))) rfl, xgt_of (w := Cond.selects RX7 yX7_keep yX7_keep) (List.mem_append_right _ (List.mem_append_right _ (List.mem_append_right _ (List.mem_append_left _ (List.mem_of_getElem? (i := 100) rfl))))) rfl, xgt_of (w := Cond.initialized RX7) (List.mem_append_left _ (List.mem_of_getElem? (i := 1) rfl)) rfl⟩, ⟨by decide +kernel, by decide +kernel, by decide +kernel⟩, by decide⟩
theorem lkL_115 : Cond.methodLink R_law 115 yX7_keep ∈ xgt := xgt_of (w := Cond.methodLink R_law 115 yX7_keep) (List.mem_append_right _ (List.mem_append_right _ (List.mem_append_right _ (List.mem_append_left _ (List.mem_of_getElem? (i := 98) rfl))))) rfl
theorem m_X8_keep : xMI yX8_keep FX8_keep 1 := ⟨⟨xgt_of (w := Cond.code yX8_keep FX8_keep.2.1 FX8_keep.2.2.1 FX8_keep.2.2.2) (List.mem_append_right _ (List.mem_append_right _ (List.mem_append_right _ (List.mem_append_right _ (List.mem_append_right _ (List.mem_of_getElem? (i := 55) rfl)))))) rfl, xgt_of (w := Cond.instanceMethod yX8_keep) (List.mem_append_right _ (List.mem_append_right _ (List.mem_append_right _ (List.mem_append_right _ (List.mem_append_right _ (List.mem_of_getElem? (i := 53) rfl)))))) rfl, xgt_of (w := Cond.selects RX8 yX8_keep yX8_keep) (List.mem_append_right _ (List.mem_append_right _ (List.mem_append_right _ (List.mem_append_right _ (List.mem_append_right _ (List.mem_of_getElem? (i := 54) rfl)))))) rfl, xgt_of (w := Cond.initialized RX8) (List.mem_append_left _ (List.mem_of_getElem? (i := 9) rfl)) rfl⟩, ⟨by decide +kernel, by decide +kernel, by decide +kernel⟩, by decide⟩
theorem lkL_118 : Cond.methodLink R_law 118 yX8_keep ∈ xgt := xgt_of (w := Cond.methodLink R_law 118 yX8_keep) (List.mem_append_right _ (List.mem_append_right _ (List.mem_append_right _ (List.mem_append_right _ (List.mem_append_right _ (List.mem_of_getElem? (i := 52) rfl)))))) rfl
theorem m_X7_back : xMI yX7_back FX7_back 1 := ⟨⟨xgt_of (w := Cond.code yX7_back FX7_back.2.1 FX7_back.2.2.1 FX7_back.2.2.2) (List.mem_append_right _ (List.mem_append_right _ (List.mem_append_right _ (List.mem_append_left _ (List.mem_of_getElem? (i := 105) rfl))))) rfl, xgt_of (w := Cond.instanceMethod yX7_back) (List.mem_append_right _ (List.mem_append_right _ (List.mem_append_right _ (List.mem_append_left _ (List.mem_of_getElem? (i := 103) rfl))))) rfl, xgt_of (w := Cond.selects RX7 yX7_back yX7_back) (List.mem_append_right _ (List.mem_append_right _ (List.mem_append_right _ (List.mem_append_left _ (List.mem_of_getElem? (i := 104) rfl))))) rfl, xgt_of (w := Cond.initialized RX7) (List.mem_append_left _ (List.mem_of_getElem? (i := 1) rfl)) rfl⟩, ⟨by decide +kernel, by decide +kernel, by decide +kernel⟩, by decide⟩
theorem lkL_119 : Cond.methodLink R_law 119 yX7_back ∈ xgt := xgt_of (w := Cond.methodLink R_law 119 yX7_back) (List.mem_append_right _ (List.mem_append_right _ (List.mem_append_right _ (List.mem_append_left _ (List.mem_of_getElem? (i := 102) rfl))))) rfl
theorem m_X8_back : xMI yX8_back FX8_back 1 := ⟨⟨xgt_of (w := Cond.code yX8_back FX8_back.2.1 FX8_back.2.2.1 FX8_back.2.2.2) (List.mem_append_right _ (List.mem_append_right _ (List.mem_append_right _ (List.mem_append_right _ (List.mem_append_right _ (List.mem_of_getElem? (i := 59) rfl)))))) rfl, xgt_of (w := Cond.instanceMethod yX8_back) (List.mem_append_right _ (List.mem_append_right _ (List.mem_append_right _ (List.mem_append_right _ (List.mem_append_right _ (List.mem_of_getElem? (i := 57) rfl)))))) rfl, xgt_of (w := Cond.selects RX8 yX8_back yX8_back) (List.mem_append_right _ (List.mem_append_right _ (List.mem_append_right _ (List.mem_append_right _ (List.mem_append_right _ (List.mem_of_getElem? (i := 58) rfl)))))) rfl, xgt_of (w := Cond.initialized RX8) (List.mem_append_left _ (List.mem_of_getElem? (i := 9) rfl)) rfl⟩, ⟨by decide +kernel, by decide +kernel, by decide +kernel⟩, by decide⟩
theorem lkL_122 : Cond.methodLink R_law 122 yX8_back ∈ xgt := xgt_of (w := Cond.methodLink R_law 122 yX8_back) (List.mem_append_right _ (List.mem_append_right _ (List.mem_append_right _ (List.mem_append_right _ (List.mem_append_right _ (List.mem_of_getElem? (i := 56) rfl)))))) rfl
