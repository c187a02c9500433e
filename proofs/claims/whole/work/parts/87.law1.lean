/-! THE CLAIM OUT OF ONE WALK OF THE LAW'S BODY. Your part is whole_start (and what it stands on); all else here is the same for every law, but numbers. -/
def R_law : String := "ThirdLetterLaw"
def lw_P (b : Addr) (xs : List Int32) (args : Array Value) (s : State) : Prop := args = #[.ref b] ∧ s.IntsAt b xs ∧ xs.length ≤ 2048 ∧ (Jvm.Cond.and given_1 narrow_1).before args s = true
def lw_Q (_ : Array Value) (s : State) (o : Outcome) (t : State) : Prop := o = .returned (some (.int 1)) ∧ Framed s o t [] 600000 7302250
def lw_Z (below : List Frame) (a : Array Value) (s : State) : State → Prop := fun t => ∃ o, t.status = .running ∧ Ended t below o ∧ lw_Q a s o t
/-- the law's own end, with 1 on the stack, nothing written that was there before, its room as the claim has it -/
theorem lw_ret {p : Program} {l : Launch} {e : Env} {s : State} {m : MethodId} {below : List Frame} {meth : Method} {c : Code} {b : Nat} (hx : p.tables.exec = Jvm.exec) (hb : c.code = code) (hr : meth.sig.returnType = ret) (hlocks : meth.locks = false) {pc : Nat} {H : Heap} {ls : Array Slot} (hdg : decode code pc = .ok (.ireturn, 1)) : W p l e room_1 s m #[Value.ref b] below meth c H [] 600000 7302250 (lw_Z below #[Value.ref b] s) (F0 m pc ls [.int 1]) := by
  intro T hT X
  obtain ⟨fs, hret, hrun, hended, hW, hframe⟩ := X.leave (v := some (.int 1)) (hlocks := hlocks) (fun h => by rw [hr] at h; cases h)
  have hmeth' : T.vm.method? m = some meth := X.method'
  refine ⟨T.setFrames fs, ?_, .returned (some (.int 1)), hrun, hended, rfl, ⟨_, rfl⟩, hW, hframe⟩
  jvm_step X.here [X.here.top, hx, hb, hdg, hmeth', hr, ret, narrow_b1]
  (try refine ⟨rfl, ?_⟩); (try refine ⟨rfl, ?_⟩)
  first | (intro acts; rw [hret _ acts rfl rfl rfl]) | rw [hret _ _ rfl rfl rfl]
  exact Steps.refl _
/-- what holds at the law's entry: the machine, the code, the tables' words (any of lw_tbl by 'hts w (by decide +kernel)'), the script of L ints xs at the cell b, what the Statement gives of the start (any of its parts by flat_of_before) -/
def lw_At (p : Program) (s : State) (m : MethodId) (meth : Method) (c : Code) (b L : Nat) (xs : Nat → Int32) : Prop :=
  p.tables.exec = Jvm.exec ∧ c.code = code ∧ meth.sig.returnType = ret ∧ c.maxLocals = 4 ∧ s.vm.findClass R_law = some m.cls ∧ (∀ w ∈ lw_tbl, w.before #[Value.ref b] s = true) ∧ va_X b L xs s s.heap ∧ b < s.heap.size ∧ meth.locks = false ∧ (Jvm.Cond.and given_1 narrow_1).before #[Value.ref b] s = true
theorem d_law_0 : decode code 0 = .ok (.new 7, 3) := by decide +kernel
theorem d_law_3 : decode code 3 = .ok (.dup, 1) := by decide +kernel
theorem d_law_4 : decode code 4 = .ok (.invokespecial 9, 3) := by decide +kernel
theorem d_law_7 : decode code 7 = .ok (.astore_n 1, 1) := by decide +kernel
theorem d_law_8 : decode code 8 = .ok (.new 10, 3) := by decide +kernel
theorem d_law_11 : decode code 11 = .ok (.dup, 1) := by decide +kernel
theorem d_law_12 : decode code 12 = .ok (.invokespecial 12, 3) := by decide +kernel
theorem d_law_15 : decode code 15 = .ok (.astore_n 2, 1) := by decide +kernel
theorem d_law_16 : decode code 16 = .ok (.iconst 0, 1) := by decide +kernel
theorem d_law_17 : decode code 17 = .ok (.istore_n 3, 1) := by decide +kernel
theorem d_law_18 : decode code 18 = .ok (.iload_n 3, 1) := by decide +kernel
theorem d_law_19 : decode code 19 = .ok (.aload_n 0, 1) := by decide +kernel
theorem d_law_20 : decode code 20 = .ok (.arraylength, 1) := by decide +kernel
theorem d_law_21 : decode code 21 = .ok (.iconst 4, 1) := by decide +kernel
theorem d_law_22 : decode code 22 = .ok (.isub, 1) := by decide +kernel
theorem d_law_23 : decode code 23 = .ok (.if_icmp .gt 756, 3) := by decide +kernel
theorem d_law_26 : decode code 26 = .ok (.aload_n 0, 1) := by decide +kernel
theorem d_law_27 : decode code 27 = .ok (.iload_n 3, 1) := by decide +kernel
theorem d_law_28 : decode code 28 = .ok (.iaload, 1) := by decide +kernel
theorem d_law_29 : decode code 29 = .ok (.bipush 31, 2) := by decide +kernel
theorem d_law_31 : decode code 31 = .ok (.iand, 1) := by decide +kernel
theorem d_law_32 : decode code 32 = .ok (.tableswitch 741 0 24 #[116, 179, 192, 205, 218, 251, 284, 307, 320, 343, 366, 389, 412, 425, 438, 471, 494, 517, 550, 583, 626, 649, 672, 695, 718], 116) := by decide +kernel
theorem d_law_148 : decode code 148 = .ok (.aload_n 1, 1) := by decide +kernel
theorem d_law_149 : decode code 149 = .ok (.aload_n 0, 1) := by decide +kernel
theorem d_law_150 : decode code 150 = .ok (.iload_n 3, 1) := by decide +kernel
theorem d_law_151 : decode code 151 = .ok (.iconst 1, 1) := by decide +kernel
theorem d_law_152 : decode code 152 = .ok (.iadd, 1) := by decide +kernel
theorem d_law_153 : decode code 153 = .ok (.iaload, 1) := by decide +kernel
theorem d_law_154 : decode code 154 = .ok (.i2l, 1) := by decide +kernel
theorem d_law_155 : decode code 155 = .ok (.bipush 32, 2) := by decide +kernel
theorem d_law_157 : decode code 157 = .ok (.lshl, 1) := by decide +kernel
theorem d_law_158 : decode code 158 = .ok (.aload_n 0, 1) := by decide +kernel
theorem d_law_159 : decode code 159 = .ok (.iload_n 3, 1) := by decide +kernel
theorem d_law_160 : decode code 160 = .ok (.iconst 2, 1) := by decide +kernel
theorem d_law_161 : decode code 161 = .ok (.iadd, 1) := by decide +kernel
theorem d_law_162 : decode code 162 = .ok (.iaload, 1) := by decide +kernel
theorem d_law_163 : decode code 163 = .ok (.i2l, 1) := by decide +kernel
theorem d_law_164 : decode code 164 = .ok (.ldc2_w 13, 3) := by decide +kernel
theorem d_law_167 : decode code 167 = .ok (.land, 1) := by decide +kernel
theorem d_law_168 : decode code 168 = .ok (.lor, 1) := by decide +kernel
theorem d_law_169 : decode code 169 = .ok (.aload_n 0, 1) := by decide +kernel
theorem d_law_170 : decode code 170 = .ok (.iload_n 3, 1) := by decide +kernel
theorem d_law_171 : decode code 171 = .ok (.iconst 3, 1) := by decide +kernel
theorem d_law_172 : decode code 172 = .ok (.iadd, 1) := by decide +kernel
theorem d_law_173 : decode code 173 = .ok (.iaload, 1) := by decide +kernel
theorem d_law_174 : decode code 174 = .ok (.invokevirtual 15, 3) := by decide +kernel
theorem d_law_177 : decode code 177 = .ok (.aload_n 2, 1) := by decide +kernel
theorem d_law_178 : decode code 178 = .ok (.aload_n 0, 1) := by decide +kernel
theorem d_law_179 : decode code 179 = .ok (.iload_n 3, 1) := by decide +kernel
theorem d_law_180 : decode code 180 = .ok (.iconst 1, 1) := by decide +kernel
theorem d_law_181 : decode code 181 = .ok (.iadd, 1) := by decide +kernel
theorem d_law_182 : decode code 182 = .ok (.iaload, 1) := by decide +kernel
theorem d_law_183 : decode code 183 = .ok (.i2l, 1) := by decide +kernel
theorem d_law_184 : decode code 184 = .ok (.bipush 32, 2) := by decide +kernel
theorem d_law_186 : decode code 186 = .ok (.lshl, 1) := by decide +kernel
theorem d_law_187 : decode code 187 = .ok (.aload_n 0, 1) := by decide +kernel
theorem d_law_188 : decode code 188 = .ok (.iload_n 3, 1) := by decide +kernel
theorem d_law_189 : decode code 189 = .ok (.iconst 2, 1) := by decide +kernel
theorem d_law_190 : decode code 190 = .ok (.iadd, 1) := by decide +kernel
theorem d_law_191 : decode code 191 = .ok (.iaload, 1) := by decide +kernel
theorem d_law_192 : decode code 192 = .ok (.i2l, 1) := by decide +kernel
theorem d_law_193 : decode code 193 = .ok (.ldc2_w 13, 3) := by decide +kernel
theorem d_law_196 : decode code 196 = .ok (.land, 1) := by decide +kernel
theorem d_law_197 : decode code 197 = .ok (.lor, 1) := by decide +kernel
theorem d_law_198 : decode code 198 = .ok (.aload_n 0, 1) := by decide +kernel
theorem d_law_199 : decode code 199 = .ok (.iload_n 3, 1) := by decide +kernel
theorem d_law_200 : decode code 200 = .ok (.iconst 3, 1) := by decide +kernel
theorem d_law_201 : decode code 201 = .ok (.iadd, 1) := by decide +kernel
theorem d_law_202 : decode code 202 = .ok (.iaload, 1) := by decide +kernel
theorem d_law_203 : decode code 203 = .ok (.invokevirtual 19, 3) := by decide +kernel
theorem d_law_206 : decode code 206 = .ok (.if_icmp .eq 567, 3) := by decide +kernel
theorem d_law_211 : decode code 211 = .ok (.aload_n 1, 1) := by decide +kernel
theorem d_law_212 : decode code 212 = .ok (.invokevirtual 20, 3) := by decide +kernel
theorem d_law_215 : decode code 215 = .ok (.aload_n 2, 1) := by decide +kernel
theorem d_law_216 : decode code 216 = .ok (.invokevirtual 24, 3) := by decide +kernel
theorem d_law_219 : decode code 219 = .ok (.if_icmp .eq 554, 3) := by decide +kernel
theorem d_law_224 : decode code 224 = .ok (.aload_n 1, 1) := by decide +kernel
theorem d_law_225 : decode code 225 = .ok (.invokevirtual 25, 3) := by decide +kernel
theorem d_law_228 : decode code 228 = .ok (.aload_n 2, 1) := by decide +kernel
theorem d_law_229 : decode code 229 = .ok (.invokevirtual 28, 3) := by decide +kernel
theorem d_law_232 : decode code 232 = .ok (.if_icmp .eq 541, 3) := by decide +kernel
theorem d_law_237 : decode code 237 = .ok (.aload_n 1, 1) := by decide +kernel
theorem d_law_238 : decode code 238 = .ok (.invokevirtual 29, 3) := by decide +kernel
theorem d_law_241 : decode code 241 = .ok (.aload_n 2, 1) := by decide +kernel
theorem d_law_242 : decode code 242 = .ok (.invokevirtual 32, 3) := by decide +kernel
theorem d_law_245 : decode code 245 = .ok (.if_icmp .eq 528, 3) := by decide +kernel
theorem d_law_250 : decode code 250 = .ok (.aload_n 1, 1) := by decide +kernel
theorem d_law_251 : decode code 251 = .ok (.aload_n 0, 1) := by decide +kernel
theorem d_law_252 : decode code 252 = .ok (.iload_n 3, 1) := by decide +kernel
theorem d_law_253 : decode code 253 = .ok (.iconst 1, 1) := by decide +kernel
theorem d_law_254 : decode code 254 = .ok (.iadd, 1) := by decide +kernel
theorem d_law_255 : decode code 255 = .ok (.iaload, 1) := by decide +kernel
theorem d_law_256 : decode code 256 = .ok (.aload_n 0, 1) := by decide +kernel
theorem d_law_257 : decode code 257 = .ok (.iload_n 3, 1) := by decide +kernel
theorem d_law_258 : decode code 258 = .ok (.iconst 2, 1) := by decide +kernel
theorem d_law_259 : decode code 259 = .ok (.iadd, 1) := by decide +kernel
theorem d_law_260 : decode code 260 = .ok (.iaload, 1) := by decide +kernel
theorem d_law_261 : decode code 261 = .ok (.invokevirtual 33, 3) := by decide +kernel
theorem d_law_264 : decode code 264 = .ok (.aload_n 2, 1) := by decide +kernel
theorem d_law_265 : decode code 265 = .ok (.aload_n 0, 1) := by decide +kernel
theorem d_law_266 : decode code 266 = .ok (.iload_n 3, 1) := by decide +kernel
theorem d_law_267 : decode code 267 = .ok (.iconst 1, 1) := by decide +kernel
theorem d_law_268 : decode code 268 = .ok (.iadd, 1) := by decide +kernel
theorem d_law_269 : decode code 269 = .ok (.iaload, 1) := by decide +kernel
theorem d_law_270 : decode code 270 = .ok (.aload_n 0, 1) := by decide +kernel
theorem d_law_271 : decode code 271 = .ok (.iload_n 3, 1) := by decide +kernel
theorem d_law_272 : decode code 272 = .ok (.iconst 2, 1) := by decide +kernel
theorem d_law_273 : decode code 273 = .ok (.iadd, 1) := by decide +kernel
theorem d_law_274 : decode code 274 = .ok (.iaload, 1) := by decide +kernel
theorem d_law_275 : decode code 275 = .ok (.invokevirtual 37, 3) := by decide +kernel
theorem d_law_278 : decode code 278 = .ok (.if_icmp .eq 495, 3) := by decide +kernel
theorem d_law_283 : decode code 283 = .ok (.aload_n 1, 1) := by decide +kernel
theorem d_law_284 : decode code 284 = .ok (.aload_n 0, 1) := by decide +kernel
theorem d_law_285 : decode code 285 = .ok (.iload_n 3, 1) := by decide +kernel
theorem d_law_286 : decode code 286 = .ok (.iconst 1, 1) := by decide +kernel
theorem d_law_287 : decode code 287 = .ok (.iadd, 1) := by decide +kernel
theorem d_law_288 : decode code 288 = .ok (.iaload, 1) := by decide +kernel
theorem d_law_289 : decode code 289 = .ok (.aload_n 0, 1) := by decide +kernel
theorem d_law_290 : decode code 290 = .ok (.iload_n 3, 1) := by decide +kernel
theorem d_law_291 : decode code 291 = .ok (.iconst 2, 1) := by decide +kernel
theorem d_law_292 : decode code 292 = .ok (.iadd, 1) := by decide +kernel
theorem d_law_293 : decode code 293 = .ok (.iaload, 1) := by decide +kernel
theorem d_law_294 : decode code 294 = .ok (.invokevirtual 38, 3) := by decide +kernel
theorem d_law_297 : decode code 297 = .ok (.aload_n 2, 1) := by decide +kernel
theorem d_law_298 : decode code 298 = .ok (.aload_n 0, 1) := by decide +kernel
theorem d_law_299 : decode code 299 = .ok (.iload_n 3, 1) := by decide +kernel
theorem d_law_300 : decode code 300 = .ok (.iconst 1, 1) := by decide +kernel
theorem d_law_301 : decode code 301 = .ok (.iadd, 1) := by decide +kernel
theorem d_law_302 : decode code 302 = .ok (.iaload, 1) := by decide +kernel
theorem d_law_303 : decode code 303 = .ok (.aload_n 0, 1) := by decide +kernel
theorem d_law_304 : decode code 304 = .ok (.iload_n 3, 1) := by decide +kernel
theorem d_law_305 : decode code 305 = .ok (.iconst 2, 1) := by decide +kernel
theorem d_law_306 : decode code 306 = .ok (.iadd, 1) := by decide +kernel
theorem d_law_307 : decode code 307 = .ok (.iaload, 1) := by decide +kernel
theorem d_law_308 : decode code 308 = .ok (.invokevirtual 41, 3) := by decide +kernel
theorem d_law_311 : decode code 311 = .ok (.if_icmp .eq 462, 3) := by decide +kernel
theorem d_law_316 : decode code 316 = .ok (.aload_n 1, 1) := by decide +kernel
theorem d_law_317 : decode code 317 = .ok (.aload_n 0, 1) := by decide +kernel
theorem d_law_318 : decode code 318 = .ok (.iload_n 3, 1) := by decide +kernel
theorem d_law_319 : decode code 319 = .ok (.iconst 1, 1) := by decide +kernel
theorem d_law_320 : decode code 320 = .ok (.iadd, 1) := by decide +kernel
theorem d_law_321 : decode code 321 = .ok (.iaload, 1) := by decide +kernel
theorem d_law_322 : decode code 322 = .ok (.invokevirtual 42, 3) := by decide +kernel
theorem d_law_325 : decode code 325 = .ok (.aload_n 2, 1) := by decide +kernel
theorem d_law_326 : decode code 326 = .ok (.aload_n 0, 1) := by decide +kernel
theorem d_law_327 : decode code 327 = .ok (.iload_n 3, 1) := by decide +kernel
theorem d_law_328 : decode code 328 = .ok (.iconst 1, 1) := by decide +kernel
theorem d_law_329 : decode code 329 = .ok (.iadd, 1) := by decide +kernel
theorem d_law_330 : decode code 330 = .ok (.iaload, 1) := by decide +kernel
theorem d_law_331 : decode code 331 = .ok (.invokevirtual 46, 3) := by decide +kernel
theorem d_law_334 : decode code 334 = .ok (.if_icmp .eq 439, 3) := by decide +kernel
theorem d_law_339 : decode code 339 = .ok (.aload_n 1, 1) := by decide +kernel
theorem d_law_340 : decode code 340 = .ok (.invokevirtual 47, 3) := by decide +kernel
theorem d_law_343 : decode code 343 = .ok (.aload_n 2, 1) := by decide +kernel
theorem d_law_344 : decode code 344 = .ok (.invokevirtual 50, 3) := by decide +kernel
theorem d_law_347 : decode code 347 = .ok (.if_icmp .eq 426, 3) := by decide +kernel
theorem d_law_352 : decode code 352 = .ok (.aload_n 1, 1) := by decide +kernel
theorem d_law_353 : decode code 353 = .ok (.aload_n 0, 1) := by decide +kernel
theorem d_law_354 : decode code 354 = .ok (.iload_n 3, 1) := by decide +kernel
theorem d_law_355 : decode code 355 = .ok (.iconst 1, 1) := by decide +kernel
theorem d_law_356 : decode code 356 = .ok (.iadd, 1) := by decide +kernel
theorem d_law_357 : decode code 357 = .ok (.iaload, 1) := by decide +kernel
theorem d_law_358 : decode code 358 = .ok (.invokevirtual 51, 3) := by decide +kernel
theorem d_law_361 : decode code 361 = .ok (.aload_n 2, 1) := by decide +kernel
theorem d_law_362 : decode code 362 = .ok (.aload_n 0, 1) := by decide +kernel
theorem d_law_363 : decode code 363 = .ok (.iload_n 3, 1) := by decide +kernel
theorem d_law_364 : decode code 364 = .ok (.iconst 1, 1) := by decide +kernel
theorem d_law_365 : decode code 365 = .ok (.iadd, 1) := by decide +kernel
theorem d_law_366 : decode code 366 = .ok (.iaload, 1) := by decide +kernel
theorem d_law_367 : decode code 367 = .ok (.invokevirtual 54, 3) := by decide +kernel
theorem d_law_370 : decode code 370 = .ok (.if_icmp .eq 403, 3) := by decide +kernel
theorem d_law_375 : decode code 375 = .ok (.aload_n 1, 1) := by decide +kernel
theorem d_law_376 : decode code 376 = .ok (.aload_n 0, 1) := by decide +kernel
theorem d_law_377 : decode code 377 = .ok (.iload_n 3, 1) := by decide +kernel
theorem d_law_378 : decode code 378 = .ok (.iconst 1, 1) := by decide +kernel
theorem d_law_379 : decode code 379 = .ok (.iadd, 1) := by decide +kernel
theorem d_law_380 : decode code 380 = .ok (.iaload, 1) := by decide +kernel
theorem d_law_381 : decode code 381 = .ok (.invokevirtual 55, 3) := by decide +kernel
theorem d_law_384 : decode code 384 = .ok (.aload_n 2, 1) := by decide +kernel
theorem d_law_385 : decode code 385 = .ok (.aload_n 0, 1) := by decide +kernel
theorem d_law_386 : decode code 386 = .ok (.iload_n 3, 1) := by decide +kernel
theorem d_law_387 : decode code 387 = .ok (.iconst 1, 1) := by decide +kernel
theorem d_law_388 : decode code 388 = .ok (.iadd, 1) := by decide +kernel
theorem d_law_389 : decode code 389 = .ok (.iaload, 1) := by decide +kernel
theorem d_law_390 : decode code 390 = .ok (.invokevirtual 58, 3) := by decide +kernel
theorem d_law_393 : decode code 393 = .ok (.if_icmp .eq 380, 3) := by decide +kernel
theorem d_law_398 : decode code 398 = .ok (.aload_n 1, 1) := by decide +kernel
theorem d_law_399 : decode code 399 = .ok (.aload_n 0, 1) := by decide +kernel
theorem d_law_400 : decode code 400 = .ok (.iload_n 3, 1) := by decide +kernel
theorem d_law_401 : decode code 401 = .ok (.iconst 1, 1) := by decide +kernel
theorem d_law_402 : decode code 402 = .ok (.iadd, 1) := by decide +kernel
theorem d_law_403 : decode code 403 = .ok (.iaload, 1) := by decide +kernel
theorem d_law_404 : decode code 404 = .ok (.invokevirtual 59, 3) := by decide +kernel
theorem d_law_407 : decode code 407 = .ok (.aload_n 2, 1) := by decide +kernel
theorem d_law_408 : decode code 408 = .ok (.aload_n 0, 1) := by decide +kernel
theorem d_law_409 : decode code 409 = .ok (.iload_n 3, 1) := by decide +kernel
theorem d_law_410 : decode code 410 = .ok (.iconst 1, 1) := by decide +kernel
theorem d_law_411 : decode code 411 = .ok (.iadd, 1) := by decide +kernel
theorem d_law_412 : decode code 412 = .ok (.iaload, 1) := by decide +kernel
theorem d_law_413 : decode code 413 = .ok (.invokevirtual 62, 3) := by decide +kernel
theorem d_law_416 : decode code 416 = .ok (.if_icmp .eq 357, 3) := by decide +kernel
theorem d_law_421 : decode code 421 = .ok (.aload_n 1, 1) := by decide +kernel
theorem d_law_422 : decode code 422 = .ok (.aload_n 0, 1) := by decide +kernel
theorem d_law_423 : decode code 423 = .ok (.iload_n 3, 1) := by decide +kernel
theorem d_law_424 : decode code 424 = .ok (.iconst 1, 1) := by decide +kernel
theorem d_law_425 : decode code 425 = .ok (.iadd, 1) := by decide +kernel
theorem d_law_426 : decode code 426 = .ok (.iaload, 1) := by decide +kernel
theorem d_law_427 : decode code 427 = .ok (.invokevirtual 63, 3) := by decide +kernel
theorem d_law_430 : decode code 430 = .ok (.aload_n 2, 1) := by decide +kernel
theorem d_law_431 : decode code 431 = .ok (.aload_n 0, 1) := by decide +kernel
theorem d_law_432 : decode code 432 = .ok (.iload_n 3, 1) := by decide +kernel
theorem d_law_433 : decode code 433 = .ok (.iconst 1, 1) := by decide +kernel
theorem d_law_434 : decode code 434 = .ok (.iadd, 1) := by decide +kernel
theorem d_law_435 : decode code 435 = .ok (.iaload, 1) := by decide +kernel
theorem d_law_436 : decode code 436 = .ok (.invokevirtual 66, 3) := by decide +kernel
theorem d_law_439 : decode code 439 = .ok (.if_icmp .eq 334, 3) := by decide +kernel
theorem d_law_444 : decode code 444 = .ok (.aload_n 1, 1) := by decide +kernel
theorem d_law_445 : decode code 445 = .ok (.invokevirtual 67, 3) := by decide +kernel
theorem d_law_448 : decode code 448 = .ok (.aload_n 2, 1) := by decide +kernel
theorem d_law_449 : decode code 449 = .ok (.invokevirtual 70, 3) := by decide +kernel
theorem d_law_452 : decode code 452 = .ok (.if_icmp .eq 321, 3) := by decide +kernel
theorem d_law_457 : decode code 457 = .ok (.aload_n 1, 1) := by decide +kernel
theorem d_law_458 : decode code 458 = .ok (.invokevirtual 71, 3) := by decide +kernel
theorem d_law_461 : decode code 461 = .ok (.aload_n 2, 1) := by decide +kernel
theorem d_law_462 : decode code 462 = .ok (.invokevirtual 74, 3) := by decide +kernel
theorem d_law_465 : decode code 465 = .ok (.if_icmp .eq 308, 3) := by decide +kernel
theorem d_law_470 : decode code 470 = .ok (.aload_n 1, 1) := by decide +kernel
theorem d_law_471 : decode code 471 = .ok (.aload_n 0, 1) := by decide +kernel
theorem d_law_472 : decode code 472 = .ok (.iload_n 3, 1) := by decide +kernel
theorem d_law_473 : decode code 473 = .ok (.iconst 1, 1) := by decide +kernel
theorem d_law_474 : decode code 474 = .ok (.iadd, 1) := by decide +kernel
theorem d_law_475 : decode code 475 = .ok (.iaload, 1) := by decide +kernel
theorem d_law_476 : decode code 476 = .ok (.aload_n 0, 1) := by decide +kernel
theorem d_law_477 : decode code 477 = .ok (.iload_n 3, 1) := by decide +kernel
theorem d_law_478 : decode code 478 = .ok (.iconst 2, 1) := by decide +kernel
theorem d_law_479 : decode code 479 = .ok (.iadd, 1) := by decide +kernel
theorem d_law_480 : decode code 480 = .ok (.iaload, 1) := by decide +kernel
theorem d_law_481 : decode code 481 = .ok (.invokevirtual 75, 3) := by decide +kernel
theorem d_law_484 : decode code 484 = .ok (.aload_n 2, 1) := by decide +kernel
theorem d_law_485 : decode code 485 = .ok (.aload_n 0, 1) := by decide +kernel
theorem d_law_486 : decode code 486 = .ok (.iload_n 3, 1) := by decide +kernel
theorem d_law_487 : decode code 487 = .ok (.iconst 1, 1) := by decide +kernel
theorem d_law_488 : decode code 488 = .ok (.iadd, 1) := by decide +kernel
theorem d_law_489 : decode code 489 = .ok (.iaload, 1) := by decide +kernel
theorem d_law_490 : decode code 490 = .ok (.aload_n 0, 1) := by decide +kernel
theorem d_law_491 : decode code 491 = .ok (.iload_n 3, 1) := by decide +kernel
theorem d_law_492 : decode code 492 = .ok (.iconst 2, 1) := by decide +kernel
theorem d_law_493 : decode code 493 = .ok (.iadd, 1) := by decide +kernel
theorem d_law_494 : decode code 494 = .ok (.iaload, 1) := by decide +kernel
theorem d_law_495 : decode code 495 = .ok (.invokevirtual 78, 3) := by decide +kernel
theorem d_law_498 : decode code 498 = .ok (.if_icmp .eq 275, 3) := by decide +kernel
theorem d_law_503 : decode code 503 = .ok (.aload_n 1, 1) := by decide +kernel
theorem d_law_504 : decode code 504 = .ok (.aload_n 0, 1) := by decide +kernel
theorem d_law_505 : decode code 505 = .ok (.iload_n 3, 1) := by decide +kernel
theorem d_law_506 : decode code 506 = .ok (.iconst 1, 1) := by decide +kernel
theorem d_law_507 : decode code 507 = .ok (.iadd, 1) := by decide +kernel
theorem d_law_508 : decode code 508 = .ok (.iaload, 1) := by decide +kernel
theorem d_law_509 : decode code 509 = .ok (.invokevirtual 79, 3) := by decide +kernel
theorem d_law_512 : decode code 512 = .ok (.aload_n 2, 1) := by decide +kernel
theorem d_law_513 : decode code 513 = .ok (.aload_n 0, 1) := by decide +kernel
theorem d_law_514 : decode code 514 = .ok (.iload_n 3, 1) := by decide +kernel
theorem d_law_515 : decode code 515 = .ok (.iconst 1, 1) := by decide +kernel
theorem d_law_516 : decode code 516 = .ok (.iadd, 1) := by decide +kernel
theorem d_law_517 : decode code 517 = .ok (.iaload, 1) := by decide +kernel
theorem d_law_518 : decode code 518 = .ok (.invokevirtual 82, 3) := by decide +kernel
theorem d_law_521 : decode code 521 = .ok (.if_icmp .eq 252, 3) := by decide +kernel
theorem d_law_526 : decode code 526 = .ok (.aload_n 1, 1) := by decide +kernel
theorem d_law_527 : decode code 527 = .ok (.aload_n 0, 1) := by decide +kernel
theorem d_law_528 : decode code 528 = .ok (.iload_n 3, 1) := by decide +kernel
theorem d_law_529 : decode code 529 = .ok (.iconst 1, 1) := by decide +kernel
theorem d_law_530 : decode code 530 = .ok (.iadd, 1) := by decide +kernel
theorem d_law_531 : decode code 531 = .ok (.iaload, 1) := by decide +kernel
theorem d_law_532 : decode code 532 = .ok (.invokevirtual 83, 3) := by decide +kernel
theorem d_law_535 : decode code 535 = .ok (.aload_n 2, 1) := by decide +kernel
theorem d_law_536 : decode code 536 = .ok (.aload_n 0, 1) := by decide +kernel
theorem d_law_537 : decode code 537 = .ok (.iload_n 3, 1) := by decide +kernel
theorem d_law_538 : decode code 538 = .ok (.iconst 1, 1) := by decide +kernel
theorem d_law_539 : decode code 539 = .ok (.iadd, 1) := by decide +kernel
theorem d_law_540 : decode code 540 = .ok (.iaload, 1) := by decide +kernel
theorem d_law_541 : decode code 541 = .ok (.invokevirtual 86, 3) := by decide +kernel
theorem d_law_544 : decode code 544 = .ok (.if_icmp .eq 229, 3) := by decide +kernel
theorem d_law_549 : decode code 549 = .ok (.aload_n 1, 1) := by decide +kernel
theorem d_law_550 : decode code 550 = .ok (.aload_n 0, 1) := by decide +kernel
theorem d_law_551 : decode code 551 = .ok (.iload_n 3, 1) := by decide +kernel
theorem d_law_552 : decode code 552 = .ok (.iconst 1, 1) := by decide +kernel
theorem d_law_553 : decode code 553 = .ok (.iadd, 1) := by decide +kernel
theorem d_law_554 : decode code 554 = .ok (.iaload, 1) := by decide +kernel
theorem d_law_555 : decode code 555 = .ok (.aload_n 0, 1) := by decide +kernel
theorem d_law_556 : decode code 556 = .ok (.iload_n 3, 1) := by decide +kernel
theorem d_law_557 : decode code 557 = .ok (.iconst 2, 1) := by decide +kernel
theorem d_law_558 : decode code 558 = .ok (.iadd, 1) := by decide +kernel
theorem d_law_559 : decode code 559 = .ok (.iaload, 1) := by decide +kernel
theorem d_law_560 : decode code 560 = .ok (.invokevirtual 87, 3) := by decide +kernel
theorem d_law_563 : decode code 563 = .ok (.aload_n 2, 1) := by decide +kernel
theorem d_law_564 : decode code 564 = .ok (.aload_n 0, 1) := by decide +kernel
theorem d_law_565 : decode code 565 = .ok (.iload_n 3, 1) := by decide +kernel
theorem d_law_566 : decode code 566 = .ok (.iconst 1, 1) := by decide +kernel
theorem d_law_567 : decode code 567 = .ok (.iadd, 1) := by decide +kernel
theorem d_law_568 : decode code 568 = .ok (.iaload, 1) := by decide +kernel
theorem d_law_569 : decode code 569 = .ok (.aload_n 0, 1) := by decide +kernel
theorem d_law_570 : decode code 570 = .ok (.iload_n 3, 1) := by decide +kernel
theorem d_law_571 : decode code 571 = .ok (.iconst 2, 1) := by decide +kernel
theorem d_law_572 : decode code 572 = .ok (.iadd, 1) := by decide +kernel
theorem d_law_573 : decode code 573 = .ok (.iaload, 1) := by decide +kernel
theorem d_law_574 : decode code 574 = .ok (.invokevirtual 90, 3) := by decide +kernel
theorem d_law_577 : decode code 577 = .ok (.if_icmp .eq 196, 3) := by decide +kernel
theorem d_law_582 : decode code 582 = .ok (.aload_n 1, 1) := by decide +kernel
theorem d_law_583 : decode code 583 = .ok (.aload_n 0, 1) := by decide +kernel
theorem d_law_584 : decode code 584 = .ok (.iload_n 3, 1) := by decide +kernel
theorem d_law_585 : decode code 585 = .ok (.iconst 1, 1) := by decide +kernel
theorem d_law_586 : decode code 586 = .ok (.iadd, 1) := by decide +kernel
theorem d_law_587 : decode code 587 = .ok (.iaload, 1) := by decide +kernel
theorem d_law_588 : decode code 588 = .ok (.aload_n 0, 1) := by decide +kernel
theorem d_law_589 : decode code 589 = .ok (.iload_n 3, 1) := by decide +kernel
theorem d_law_590 : decode code 590 = .ok (.iconst 2, 1) := by decide +kernel
theorem d_law_591 : decode code 591 = .ok (.iadd, 1) := by decide +kernel
theorem d_law_592 : decode code 592 = .ok (.iaload, 1) := by decide +kernel
theorem d_law_593 : decode code 593 = .ok (.invokevirtual 91, 3) := by decide +kernel
theorem d_law_596 : decode code 596 = .ok (.aload_n 2, 1) := by decide +kernel
theorem d_law_597 : decode code 597 = .ok (.aload_n 0, 1) := by decide +kernel
theorem d_law_598 : decode code 598 = .ok (.iload_n 3, 1) := by decide +kernel
theorem d_law_599 : decode code 599 = .ok (.iconst 1, 1) := by decide +kernel
theorem d_law_600 : decode code 600 = .ok (.iadd, 1) := by decide +kernel
theorem d_law_601 : decode code 601 = .ok (.iaload, 1) := by decide +kernel
theorem d_law_602 : decode code 602 = .ok (.aload_n 0, 1) := by decide +kernel
theorem d_law_603 : decode code 603 = .ok (.iload_n 3, 1) := by decide +kernel
theorem d_law_604 : decode code 604 = .ok (.iconst 2, 1) := by decide +kernel
theorem d_law_605 : decode code 605 = .ok (.iadd, 1) := by decide +kernel
theorem d_law_606 : decode code 606 = .ok (.iaload, 1) := by decide +kernel
theorem d_law_607 : decode code 607 = .ok (.invokevirtual 94, 3) := by decide +kernel
theorem d_law_610 : decode code 610 = .ok (.if_icmp .eq 163, 3) := by decide +kernel
theorem d_law_615 : decode code 615 = .ok (.aload_n 1, 1) := by decide +kernel
theorem d_law_616 : decode code 616 = .ok (.aload_n 0, 1) := by decide +kernel
theorem d_law_617 : decode code 617 = .ok (.iload_n 3, 1) := by decide +kernel
theorem d_law_618 : decode code 618 = .ok (.iconst 1, 1) := by decide +kernel
theorem d_law_619 : decode code 619 = .ok (.iadd, 1) := by decide +kernel
theorem d_law_620 : decode code 620 = .ok (.iaload, 1) := by decide +kernel
theorem d_law_621 : decode code 621 = .ok (.aload_n 0, 1) := by decide +kernel
theorem d_law_622 : decode code 622 = .ok (.iload_n 3, 1) := by decide +kernel
theorem d_law_623 : decode code 623 = .ok (.iconst 2, 1) := by decide +kernel
theorem d_law_624 : decode code 624 = .ok (.iadd, 1) := by decide +kernel
theorem d_law_625 : decode code 625 = .ok (.iaload, 1) := by decide +kernel
theorem d_law_626 : decode code 626 = .ok (.aload_n 0, 1) := by decide +kernel
theorem d_law_627 : decode code 627 = .ok (.iload_n 3, 1) := by decide +kernel
theorem d_law_628 : decode code 628 = .ok (.iconst 3, 1) := by decide +kernel
theorem d_law_629 : decode code 629 = .ok (.iadd, 1) := by decide +kernel
theorem d_law_630 : decode code 630 = .ok (.iaload, 1) := by decide +kernel
theorem d_law_631 : decode code 631 = .ok (.invokevirtual 95, 3) := by decide +kernel
theorem d_law_634 : decode code 634 = .ok (.aload_n 2, 1) := by decide +kernel
theorem d_law_635 : decode code 635 = .ok (.aload_n 0, 1) := by decide +kernel
theorem d_law_636 : decode code 636 = .ok (.iload_n 3, 1) := by decide +kernel
theorem d_law_637 : decode code 637 = .ok (.iconst 1, 1) := by decide +kernel
theorem d_law_638 : decode code 638 = .ok (.iadd, 1) := by decide +kernel
theorem d_law_639 : decode code 639 = .ok (.iaload, 1) := by decide +kernel
theorem d_law_640 : decode code 640 = .ok (.aload_n 0, 1) := by decide +kernel
theorem d_law_641 : decode code 641 = .ok (.iload_n 3, 1) := by decide +kernel
theorem d_law_642 : decode code 642 = .ok (.iconst 2, 1) := by decide +kernel
theorem d_law_643 : decode code 643 = .ok (.iadd, 1) := by decide +kernel
theorem d_law_644 : decode code 644 = .ok (.iaload, 1) := by decide +kernel
theorem d_law_645 : decode code 645 = .ok (.aload_n 0, 1) := by decide +kernel
theorem d_law_646 : decode code 646 = .ok (.iload_n 3, 1) := by decide +kernel
theorem d_law_647 : decode code 647 = .ok (.iconst 3, 1) := by decide +kernel
theorem d_law_648 : decode code 648 = .ok (.iadd, 1) := by decide +kernel
theorem d_law_649 : decode code 649 = .ok (.iaload, 1) := by decide +kernel
theorem d_law_650 : decode code 650 = .ok (.invokevirtual 99, 3) := by decide +kernel
theorem d_law_653 : decode code 653 = .ok (.if_icmp .eq 120, 3) := by decide +kernel
theorem d_law_658 : decode code 658 = .ok (.aload_n 1, 1) := by decide +kernel
theorem d_law_659 : decode code 659 = .ok (.aload_n 0, 1) := by decide +kernel
theorem d_law_660 : decode code 660 = .ok (.iload_n 3, 1) := by decide +kernel
theorem d_law_661 : decode code 661 = .ok (.iconst 1, 1) := by decide +kernel
theorem d_law_662 : decode code 662 = .ok (.iadd, 1) := by decide +kernel
theorem d_law_663 : decode code 663 = .ok (.iaload, 1) := by decide +kernel
theorem d_law_664 : decode code 664 = .ok (.invokevirtual 100, 3) := by decide +kernel
theorem d_law_667 : decode code 667 = .ok (.aload_n 2, 1) := by decide +kernel
theorem d_law_668 : decode code 668 = .ok (.aload_n 0, 1) := by decide +kernel
theorem d_law_669 : decode code 669 = .ok (.iload_n 3, 1) := by decide +kernel
theorem d_law_670 : decode code 670 = .ok (.iconst 1, 1) := by decide +kernel
theorem d_law_671 : decode code 671 = .ok (.iadd, 1) := by decide +kernel
theorem d_law_672 : decode code 672 = .ok (.iaload, 1) := by decide +kernel
theorem d_law_673 : decode code 673 = .ok (.invokevirtual 103, 3) := by decide +kernel
theorem d_law_676 : decode code 676 = .ok (.if_icmp .eq 97, 3) := by decide +kernel
theorem d_law_681 : decode code 681 = .ok (.aload_n 1, 1) := by decide +kernel
theorem d_law_682 : decode code 682 = .ok (.aload_n 0, 1) := by decide +kernel
theorem d_law_683 : decode code 683 = .ok (.iload_n 3, 1) := by decide +kernel
theorem d_law_684 : decode code 684 = .ok (.iconst 1, 1) := by decide +kernel
theorem d_law_685 : decode code 685 = .ok (.iadd, 1) := by decide +kernel
theorem d_law_686 : decode code 686 = .ok (.iaload, 1) := by decide +kernel
theorem d_law_687 : decode code 687 = .ok (.invokevirtual 104, 3) := by decide +kernel
theorem d_law_690 : decode code 690 = .ok (.aload_n 2, 1) := by decide +kernel
theorem d_law_691 : decode code 691 = .ok (.aload_n 0, 1) := by decide +kernel
theorem d_law_692 : decode code 692 = .ok (.iload_n 3, 1) := by decide +kernel
theorem d_law_693 : decode code 693 = .ok (.iconst 1, 1) := by decide +kernel
theorem d_law_694 : decode code 694 = .ok (.iadd, 1) := by decide +kernel
theorem d_law_695 : decode code 695 = .ok (.iaload, 1) := by decide +kernel
theorem d_law_696 : decode code 696 = .ok (.invokevirtual 107, 3) := by decide +kernel
theorem d_law_699 : decode code 699 = .ok (.if_icmp .eq 74, 3) := by decide +kernel
theorem d_law_704 : decode code 704 = .ok (.aload_n 1, 1) := by decide +kernel
theorem d_law_705 : decode code 705 = .ok (.aload_n 0, 1) := by decide +kernel
theorem d_law_706 : decode code 706 = .ok (.iload_n 3, 1) := by decide +kernel
theorem d_law_707 : decode code 707 = .ok (.iconst 1, 1) := by decide +kernel
theorem d_law_708 : decode code 708 = .ok (.iadd, 1) := by decide +kernel
theorem d_law_709 : decode code 709 = .ok (.iaload, 1) := by decide +kernel
theorem d_law_710 : decode code 710 = .ok (.invokevirtual 108, 3) := by decide +kernel
theorem d_law_713 : decode code 713 = .ok (.aload_n 2, 1) := by decide +kernel
theorem d_law_714 : decode code 714 = .ok (.aload_n 0, 1) := by decide +kernel
theorem d_law_715 : decode code 715 = .ok (.iload_n 3, 1) := by decide +kernel
theorem d_law_716 : decode code 716 = .ok (.iconst 1, 1) := by decide +kernel
theorem d_law_717 : decode code 717 = .ok (.iadd, 1) := by decide +kernel
theorem d_law_718 : decode code 718 = .ok (.iaload, 1) := by decide +kernel
theorem d_law_719 : decode code 719 = .ok (.invokevirtual 111, 3) := by decide +kernel
theorem d_law_722 : decode code 722 = .ok (.if_icmp .eq 51, 3) := by decide +kernel
theorem d_law_727 : decode code 727 = .ok (.aload_n 1, 1) := by decide +kernel
theorem d_law_728 : decode code 728 = .ok (.aload_n 0, 1) := by decide +kernel
theorem d_law_729 : decode code 729 = .ok (.iload_n 3, 1) := by decide +kernel
theorem d_law_730 : decode code 730 = .ok (.iconst 1, 1) := by decide +kernel
theorem d_law_731 : decode code 731 = .ok (.iadd, 1) := by decide +kernel
theorem d_law_732 : decode code 732 = .ok (.iaload, 1) := by decide +kernel
theorem d_law_733 : decode code 733 = .ok (.invokevirtual 112, 3) := by decide +kernel
theorem d_law_736 : decode code 736 = .ok (.aload_n 2, 1) := by decide +kernel
theorem d_law_737 : decode code 737 = .ok (.aload_n 0, 1) := by decide +kernel
theorem d_law_738 : decode code 738 = .ok (.iload_n 3, 1) := by decide +kernel
theorem d_law_739 : decode code 739 = .ok (.iconst 1, 1) := by decide +kernel
theorem d_law_740 : decode code 740 = .ok (.iadd, 1) := by decide +kernel
theorem d_law_741 : decode code 741 = .ok (.iaload, 1) := by decide +kernel
theorem d_law_742 : decode code 742 = .ok (.invokevirtual 115, 3) := by decide +kernel
theorem d_law_745 : decode code 745 = .ok (.if_icmp .eq 28, 3) := by decide +kernel
theorem d_law_750 : decode code 750 = .ok (.aload_n 1, 1) := by decide +kernel
theorem d_law_751 : decode code 751 = .ok (.aload_n 0, 1) := by decide +kernel
theorem d_law_752 : decode code 752 = .ok (.iload_n 3, 1) := by decide +kernel
theorem d_law_753 : decode code 753 = .ok (.iconst 1, 1) := by decide +kernel
theorem d_law_754 : decode code 754 = .ok (.iadd, 1) := by decide +kernel
theorem d_law_755 : decode code 755 = .ok (.iaload, 1) := by decide +kernel
theorem d_law_756 : decode code 756 = .ok (.invokevirtual 116, 3) := by decide +kernel
theorem d_law_759 : decode code 759 = .ok (.aload_n 2, 1) := by decide +kernel
theorem d_law_760 : decode code 760 = .ok (.aload_n 0, 1) := by decide +kernel
theorem d_law_761 : decode code 761 = .ok (.iload_n 3, 1) := by decide +kernel
theorem d_law_762 : decode code 762 = .ok (.iconst 1, 1) := by decide +kernel
theorem d_law_763 : decode code 763 = .ok (.iadd, 1) := by decide +kernel
theorem d_law_764 : decode code 764 = .ok (.iaload, 1) := by decide +kernel
theorem d_law_765 : decode code 765 = .ok (.invokevirtual 119, 3) := by decide +kernel
theorem d_law_768 : decode code 768 = .ok (.if_icmp .eq 5, 3) := by decide +kernel
theorem d_law_773 : decode code 773 = .ok (.iinc 3 4, 3) := by decide +kernel
theorem d_law_776 : decode code 776 = .ok (.goto (-758), 3) := by decide +kernel
theorem d_law_779 : decode code 779 = .ok (.iconst 1, 1) := by decide +kernel
theorem d_law_780 : decode code 780 = .ok (.ireturn, 1) := by decide +kernel
/-- what the law's loop stands on -/
def LwF (p : Program) (s : State) (m : MethodId) (meth : Method) (c : Code) (b L : Nat) (xs : Nat → Int32) (G : Geo) : Prop :=
  lw_At p s m meth c b L xs ∧ va_K G.1 cls (wtys G) s ∧ dst G ∧ strs G s s.heap ∧ ∀ q, q < 68 → s.heap.size ≤ G.2.1 q
section LWC
variable {p : Program} {l : Launch} {e : Jvm.Env} {s : State} {m : MethodId} {below : List Frame} {meth : Method} {c : Code} {b L : Nat} {xs : Nat → Int32} {G : Geo} {H : Heap} {locs : List Loc} {cells slots : Nat} {Q : State → Prop}
theorem lw_nin (F : LwF p s m meth c b L xs G) : ¬ inW G b := by
  rintro ⟨q, hq, e⟩
  have h1 := F.2.2.2.2 q hq
  have h2 : b < s.heap.size := F.1.2.2.2.2.2.2.2.1
  omega
theorem lw_call {σ : St} {post : Int32 → St → Prop} {ls : Array Slot} {pc idx k o ci : Nat} {fl : List Nat} {cc : vw_C} {g' : Sig} {av rest : List Value} (F : LwF p s m meth c b L xs G) (hP : va_P G.1 cls (wcells G σ) H) (hS : va_S (inW G) s.heap H locs) (hls : ls.size = 4) (hg' : sigs[k]? = some g') (ho : lay o = (0, ci, fl)) (hc : cls[ci]? = some cc) (hcn : g'.1.cls = cc.1)
    (w1 : Cond.methodLink R_law idx g'.1 ∈ gtbl) (w2 : Cond.instanceMethod g'.1 ∈ gtbl) (w3 : Cond.selects g'.1.cls g'.1 g'.1 ∈ gtbl) (w4 : Cond.initialized g'.1.cls ∈ gtbl) (hnum : (parseMethodDescriptor g'.1.desc).map (fun d => d.parameters.length) = some av.length) (hD : DoesI l G 20 k (.ref o :: av) σ post) (hrm : (rest.map fun v => v.category).sum ≤ 8) (hcl : cells ≤ 600000) (hsl : slots ≤ 7302250) (hdg : decode code pc = .ok (.invokevirtual idx, 3))
    (kk : ∀ (r : Int32) (σ' : St) (H1 : Heap) (locs1 : List Loc), post r σ' → va_P G.1 cls (wcells G σ') H1 → va_S (inW G) s.heap H1 locs1 → W p l e room_1 s m #[Value.ref b] below meth c H1 locs1 cells slots Q (F0 m (pc + 3) ls (.int r :: rest))) : W p l e room_1 s m #[Value.ref b] below meth c H locs cells slots Q (F0 m pc ls ((av.map (vmp G)).reverse ++ .ref (G.2.1 o) :: rest)) := by
  obtain ⟨⟨hx, hb, hr, hml, hown, hts, hX, hbl, hlocks, hgv⟩, hK, hdst, hstr, hge⟩ := F
  have htg : ∀ w ∈ gtbl, w.before #[Value.ref b] s = true := fun w hw => hts w (List.mem_filter.mp hw).1
  have hs' := sg_ok hg'
  have hq : o < 68 := lay_lt (by rw [ho]; show (0 : Nat) ≠ 9; decide)
  have hrec : ∃ cell : Cell, H[G.2.1 o]? = some cell ∧ cell.vm.isStatics = false ∧ s.vm.findClass g'.1.cls = some cell.cls := by
    rw [hcn]
    exact va_recv hK hP hc (by rw [wc_at hq, wc_obj ho])
  refine va_callQ (G := G) (va_runV (C := g'.1.cls) (b := G.2.1 o) (As := av.map (vmp G)) (rest := rest) (n := av.length) ⟨hx, hb, hml, hown, htg⟩ (hD g' hg') (cwV av.length htg (gt_good hs'.1 (by
      intro w hw
      simp only [List.mem_cons, List.not_mem_nil, or_false] at hw
      rcases hw with rfl | rfl | rfl | rfl <;> assumption)) rfl rfl rfl ⟨rfl, hs'.2.2.1, hs'.2.2.2.1, hnum⟩ ⟨by show 20 + 1 ≤ 2048; decide, by show 8 + (g'.2.2.1 + 11) + 64 * 20 ≤ 84000; have := hs'.2.2.2.2; omega⟩) ⟨blind, hrec, fun U hU hW => ⟨rfl, by rw [hU]; exact hP, va_K.moved hW.alike hK, hdst, strs_go hW hU hS hstr⟩⟩ rfl (by rw [List.length_map]) hls rfl (lv_room hrm) hdg ⟨hcl, hsl⟩) hS (fun r σ1 H1 locs1 hp hP1 hS1 => ?_)
  unfold pI at hp
  split at hp
  · rename_i x
    exact kk x σ1 H1 locs1 hp hP1 hS1
  · exact hp.elim
theorem lw_ins (i : Nat) {x3 : Int32} (e3 : x3 = nI i) (hi : i + 4 ≤ L) (hL : L ≤ 2048) : vp_in x3 L ∧ vp_in (x3 + 1) L ∧ vp_in (x3 + 2) L ∧ vp_in (x3 + 3) L := by
  subst e3
  refine ⟨vin (by omega) (by omega), ?_, ?_, ?_⟩
  · rw [nI_1]
    exact vin (by omega) (by omega)
  · rw [show (2 : Int32) = nI 2 from rfl, nI_add]
    exact vin (by omega) (by omega)
  · rw [show (3 : Int32) = nI 3 from rfl, nI_add]
    exact vin (by omega) (by omega)
end LWC
