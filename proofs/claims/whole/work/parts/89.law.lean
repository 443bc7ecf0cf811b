/-! THE CLAIM OUT OF ONE WALK OF THE LAW'S BODY. Your part is whole_start (and what it stands on); all else here is the same for every law, but numbers. -/
def R_law : String := "SmokeGoesToLaw"
def lw_P (b : Addr) (xs : List Int32) (args : Array Value) (s : State) : Prop := args = #[.ref b] ∧ s.IntsAt b xs ∧ xs.length ≤ 3072 ∧ (Jvm.Cond.and given_1 narrow_1).before args s = true
def lw_Q (_ : Array Value) (s : State) (o : Outcome) (t : State) : Prop := o = .returned (some (.int 1)) ∧ Framed s o t [] 600000 7302249
def lw_Z (below : List Frame) (a : Array Value) (s : State) : State → Prop := fun t => ∃ o, t.status = .running ∧ Ended t below o ∧ lw_Q a s o t
/-- the law's own end, with 1 on the stack, nothing written that was there before, its room as the claim has it -/
theorem lw_ret {p : Program} {l : Launch} {e : Env} {s : State} {m : MethodId} {below : List Frame} {meth : Method} {c : Code} {b : Nat} (hx : p.tables.exec = Jvm.exec) (hb : c.code = code) (hr : meth.sig.returnType = ret) (hlocks : meth.locks = false) {pc : Nat} {H : Heap} {ls : Array Slot} (hdg : decode code pc = .ok (.ireturn, 1)) : W p l e room_1 s m #[Value.ref b] below meth c H [] 600000 7302249 (lw_Z below #[Value.ref b] s) (F0 m pc ls [.int 1]) := by
  intro T hT X
  obtain ⟨fs, hret, hrun, hended, hW, hframe⟩ := X.leave (v := some (.int 1)) (hlocks := hlocks) (fun h => by rw [hr] at h; cases h)
  have hmeth' : T.vm.method? m = some meth := X.method'
  refine ⟨T.setFrames fs, ?_, .returned (some (.int 1)), hrun, hended, rfl, ⟨_, rfl⟩, hW, hframe⟩
  jvm_step X.here [X.here.top, hx, hb, hdg, hmeth', hr, ret, narrow_b1]
  (try refine ⟨rfl, ?_⟩); (try refine ⟨rfl, ?_⟩)
  first | (intro acts; rw [hret _ acts rfl rfl rfl]) | rw [hret _ _ rfl rfl rfl]
  exact Steps.refl _
/-- what holds at the law's entry: the machine, the code, the tables' words (any of lw_tbl by 'hts w (by decide +kernel)'), the script of L ints xs at the cell b, what the Statement gives of the start (any of its parts by flat_of_before) -/
def lw_At (p : Program) (s : State) (m : MethodId) (meth : Method) (c : Code) (b L : Nat) (xs : Nat → Int32) : Prop :=
  p.tables.exec = Jvm.exec ∧ c.code = code ∧ meth.sig.returnType = ret ∧ c.maxLocals = 4 ∧ s.vm.findClass R_law = some m.cls ∧ (∀ w ∈ lw_tbl, w.before #[Value.ref b] s = true) ∧ va_X b L xs s s.heap ∧ b < s.heap.size ∧ meth.locks = false ∧ (Jvm.Cond.and given_1 narrow_1).before #[Value.ref b] s = true
theorem dL_0 : decode code 0 = .ok (.new 7, 3) := by decide +kernel
theorem dL_3 : decode code 3 = .ok (.dup, 1) := by decide +kernel
theorem dL_4 : decode code 4 = .ok (.invokespecial 9, 3) := by decide +kernel
theorem dL_7 : decode code 7 = .ok (.astore_n 1, 1) := by decide +kernel
theorem dL_8 : decode code 8 = .ok (.new 10, 3) := by decide +kernel
theorem dL_11 : decode code 11 = .ok (.dup, 1) := by decide +kernel
theorem dL_12 : decode code 12 = .ok (.invokespecial 12, 3) := by decide +kernel
theorem dL_15 : decode code 15 = .ok (.astore_n 2, 1) := by decide +kernel
theorem dL_16 : decode code 16 = .ok (.iconst 0, 1) := by decide +kernel
theorem dL_17 : decode code 17 = .ok (.istore_n 3, 1) := by decide +kernel
theorem dL_18 : decode code 18 = .ok (.iload_n 3, 1) := by decide +kernel
theorem dL_19 : decode code 19 = .ok (.aload_n 0, 1) := by decide +kernel
theorem dL_20 : decode code 20 = .ok (.arraylength, 1) := by decide +kernel
theorem dL_21 : decode code 21 = .ok (.bipush 6, 2) := by decide +kernel
theorem dL_23 : decode code 23 = .ok (.isub, 1) := by decide +kernel
theorem dL_24 : decode code 24 = .ok (.if_icmp .gt 1042, 3) := by decide +kernel
theorem dL_27 : decode code 27 = .ok (.aload_n 0, 1) := by decide +kernel
theorem dL_28 : decode code 28 = .ok (.iload_n 3, 1) := by decide +kernel
theorem dL_29 : decode code 29 = .ok (.iaload, 1) := by decide +kernel
theorem dL_30 : decode code 30 = .ok (.bipush 31, 2) := by decide +kernel
theorem dL_32 : decode code 32 = .ok (.iand, 1) := by decide +kernel
theorem dL_33 : decode code 33 = .ok (.tableswitch 1027 0 26 #[123, 166, 209, 242, 265, 278, 301, 334, 357, 401, 445, 478, 511, 534, 557, 600, 643, 676, 699, 743, 756, 769, 792, 835, 878, 941, 994], 123) := by decide +kernel
theorem dL_156 : decode code 156 = .ok (.aload_n 1, 1) := by decide +kernel
theorem dL_157 : decode code 157 = .ok (.aload_n 0, 1) := by decide +kernel
theorem dL_158 : decode code 158 = .ok (.iload_n 3, 1) := by decide +kernel
theorem dL_159 : decode code 159 = .ok (.iconst 1, 1) := by decide +kernel
theorem dL_160 : decode code 160 = .ok (.iadd, 1) := by decide +kernel
theorem dL_161 : decode code 161 = .ok (.iaload, 1) := by decide +kernel
theorem dL_162 : decode code 162 = .ok (.aload_n 0, 1) := by decide +kernel
theorem dL_163 : decode code 163 = .ok (.iload_n 3, 1) := by decide +kernel
theorem dL_164 : decode code 164 = .ok (.iconst 2, 1) := by decide +kernel
theorem dL_165 : decode code 165 = .ok (.iadd, 1) := by decide +kernel
theorem dL_166 : decode code 166 = .ok (.iaload, 1) := by decide +kernel
theorem dL_167 : decode code 167 = .ok (.aload_n 0, 1) := by decide +kernel
theorem dL_168 : decode code 168 = .ok (.iload_n 3, 1) := by decide +kernel
theorem dL_169 : decode code 169 = .ok (.iconst 3, 1) := by decide +kernel
theorem dL_170 : decode code 170 = .ok (.iadd, 1) := by decide +kernel
theorem dL_171 : decode code 171 = .ok (.iaload, 1) := by decide +kernel
theorem dL_172 : decode code 172 = .ok (.invokevirtual 13, 3) := by decide +kernel
theorem dL_175 : decode code 175 = .ok (.aload_n 2, 1) := by decide +kernel
theorem dL_176 : decode code 176 = .ok (.aload_n 0, 1) := by decide +kernel
theorem dL_177 : decode code 177 = .ok (.iload_n 3, 1) := by decide +kernel
theorem dL_178 : decode code 178 = .ok (.iconst 1, 1) := by decide +kernel
theorem dL_179 : decode code 179 = .ok (.iadd, 1) := by decide +kernel
theorem dL_180 : decode code 180 = .ok (.iaload, 1) := by decide +kernel
theorem dL_181 : decode code 181 = .ok (.aload_n 0, 1) := by decide +kernel
theorem dL_182 : decode code 182 = .ok (.iload_n 3, 1) := by decide +kernel
theorem dL_183 : decode code 183 = .ok (.iconst 2, 1) := by decide +kernel
theorem dL_184 : decode code 184 = .ok (.iadd, 1) := by decide +kernel
theorem dL_185 : decode code 185 = .ok (.iaload, 1) := by decide +kernel
theorem dL_186 : decode code 186 = .ok (.aload_n 0, 1) := by decide +kernel
theorem dL_187 : decode code 187 = .ok (.iload_n 3, 1) := by decide +kernel
theorem dL_188 : decode code 188 = .ok (.iconst 3, 1) := by decide +kernel
theorem dL_189 : decode code 189 = .ok (.iadd, 1) := by decide +kernel
theorem dL_190 : decode code 190 = .ok (.iaload, 1) := by decide +kernel
theorem dL_191 : decode code 191 = .ok (.invokevirtual 17, 3) := by decide +kernel
theorem dL_194 : decode code 194 = .ok (.if_icmp .eq 866, 3) := by decide +kernel
theorem dL_197 : decode code 197 = .ok (.iconst 0, 1) := by decide +kernel
theorem dL_198 : decode code 198 = .ok (.ireturn, 1) := by decide +kernel
theorem dL_199 : decode code 199 = .ok (.aload_n 1, 1) := by decide +kernel
theorem dL_200 : decode code 200 = .ok (.aload_n 0, 1) := by decide +kernel
theorem dL_201 : decode code 201 = .ok (.iload_n 3, 1) := by decide +kernel
theorem dL_202 : decode code 202 = .ok (.iconst 1, 1) := by decide +kernel
theorem dL_203 : decode code 203 = .ok (.iadd, 1) := by decide +kernel
theorem dL_204 : decode code 204 = .ok (.iaload, 1) := by decide +kernel
theorem dL_205 : decode code 205 = .ok (.aload_n 0, 1) := by decide +kernel
theorem dL_206 : decode code 206 = .ok (.iload_n 3, 1) := by decide +kernel
theorem dL_207 : decode code 207 = .ok (.iconst 2, 1) := by decide +kernel
theorem dL_208 : decode code 208 = .ok (.iadd, 1) := by decide +kernel
theorem dL_209 : decode code 209 = .ok (.iaload, 1) := by decide +kernel
theorem dL_210 : decode code 210 = .ok (.aload_n 0, 1) := by decide +kernel
theorem dL_211 : decode code 211 = .ok (.iload_n 3, 1) := by decide +kernel
theorem dL_212 : decode code 212 = .ok (.iconst 3, 1) := by decide +kernel
theorem dL_213 : decode code 213 = .ok (.iadd, 1) := by decide +kernel
theorem dL_214 : decode code 214 = .ok (.iaload, 1) := by decide +kernel
theorem dL_215 : decode code 215 = .ok (.invokevirtual 18, 3) := by decide +kernel
theorem dL_218 : decode code 218 = .ok (.aload_n 2, 1) := by decide +kernel
theorem dL_219 : decode code 219 = .ok (.aload_n 0, 1) := by decide +kernel
theorem dL_220 : decode code 220 = .ok (.iload_n 3, 1) := by decide +kernel
theorem dL_221 : decode code 221 = .ok (.iconst 1, 1) := by decide +kernel
theorem dL_222 : decode code 222 = .ok (.iadd, 1) := by decide +kernel
theorem dL_223 : decode code 223 = .ok (.iaload, 1) := by decide +kernel
theorem dL_224 : decode code 224 = .ok (.aload_n 0, 1) := by decide +kernel
theorem dL_225 : decode code 225 = .ok (.iload_n 3, 1) := by decide +kernel
theorem dL_226 : decode code 226 = .ok (.iconst 2, 1) := by decide +kernel
theorem dL_227 : decode code 227 = .ok (.iadd, 1) := by decide +kernel
theorem dL_228 : decode code 228 = .ok (.iaload, 1) := by decide +kernel
theorem dL_229 : decode code 229 = .ok (.aload_n 0, 1) := by decide +kernel
theorem dL_230 : decode code 230 = .ok (.iload_n 3, 1) := by decide +kernel
theorem dL_231 : decode code 231 = .ok (.iconst 3, 1) := by decide +kernel
theorem dL_232 : decode code 232 = .ok (.iadd, 1) := by decide +kernel
theorem dL_233 : decode code 233 = .ok (.iaload, 1) := by decide +kernel
theorem dL_234 : decode code 234 = .ok (.invokevirtual 21, 3) := by decide +kernel
theorem dL_237 : decode code 237 = .ok (.if_icmp .eq 823, 3) := by decide +kernel
theorem dL_240 : decode code 240 = .ok (.iconst 0, 1) := by decide +kernel
theorem dL_241 : decode code 241 = .ok (.ireturn, 1) := by decide +kernel
theorem dL_242 : decode code 242 = .ok (.aload_n 1, 1) := by decide +kernel
theorem dL_243 : decode code 243 = .ok (.aload_n 0, 1) := by decide +kernel
theorem dL_244 : decode code 244 = .ok (.iload_n 3, 1) := by decide +kernel
theorem dL_245 : decode code 245 = .ok (.iconst 1, 1) := by decide +kernel
theorem dL_246 : decode code 246 = .ok (.iadd, 1) := by decide +kernel
theorem dL_247 : decode code 247 = .ok (.iaload, 1) := by decide +kernel
theorem dL_248 : decode code 248 = .ok (.aload_n 0, 1) := by decide +kernel
theorem dL_249 : decode code 249 = .ok (.iload_n 3, 1) := by decide +kernel
theorem dL_250 : decode code 250 = .ok (.iconst 2, 1) := by decide +kernel
theorem dL_251 : decode code 251 = .ok (.iadd, 1) := by decide +kernel
theorem dL_252 : decode code 252 = .ok (.iaload, 1) := by decide +kernel
theorem dL_253 : decode code 253 = .ok (.invokevirtual 22, 3) := by decide +kernel
theorem dL_256 : decode code 256 = .ok (.aload_n 2, 1) := by decide +kernel
theorem dL_257 : decode code 257 = .ok (.aload_n 0, 1) := by decide +kernel
theorem dL_258 : decode code 258 = .ok (.iload_n 3, 1) := by decide +kernel
theorem dL_259 : decode code 259 = .ok (.iconst 1, 1) := by decide +kernel
theorem dL_260 : decode code 260 = .ok (.iadd, 1) := by decide +kernel
theorem dL_261 : decode code 261 = .ok (.iaload, 1) := by decide +kernel
theorem dL_262 : decode code 262 = .ok (.aload_n 0, 1) := by decide +kernel
theorem dL_263 : decode code 263 = .ok (.iload_n 3, 1) := by decide +kernel
theorem dL_264 : decode code 264 = .ok (.iconst 2, 1) := by decide +kernel
theorem dL_265 : decode code 265 = .ok (.iadd, 1) := by decide +kernel
theorem dL_266 : decode code 266 = .ok (.iaload, 1) := by decide +kernel
theorem dL_267 : decode code 267 = .ok (.invokevirtual 26, 3) := by decide +kernel
theorem dL_270 : decode code 270 = .ok (.if_icmp .eq 790, 3) := by decide +kernel
theorem dL_273 : decode code 273 = .ok (.iconst 0, 1) := by decide +kernel
theorem dL_274 : decode code 274 = .ok (.ireturn, 1) := by decide +kernel
theorem dL_275 : decode code 275 = .ok (.aload_n 1, 1) := by decide +kernel
theorem dL_276 : decode code 276 = .ok (.aload_n 0, 1) := by decide +kernel
theorem dL_277 : decode code 277 = .ok (.iload_n 3, 1) := by decide +kernel
theorem dL_278 : decode code 278 = .ok (.iconst 1, 1) := by decide +kernel
theorem dL_279 : decode code 279 = .ok (.iadd, 1) := by decide +kernel
theorem dL_280 : decode code 280 = .ok (.iaload, 1) := by decide +kernel
theorem dL_281 : decode code 281 = .ok (.invokevirtual 27, 3) := by decide +kernel
theorem dL_284 : decode code 284 = .ok (.aload_n 2, 1) := by decide +kernel
theorem dL_285 : decode code 285 = .ok (.aload_n 0, 1) := by decide +kernel
theorem dL_286 : decode code 286 = .ok (.iload_n 3, 1) := by decide +kernel
theorem dL_287 : decode code 287 = .ok (.iconst 1, 1) := by decide +kernel
theorem dL_288 : decode code 288 = .ok (.iadd, 1) := by decide +kernel
theorem dL_289 : decode code 289 = .ok (.iaload, 1) := by decide +kernel
theorem dL_290 : decode code 290 = .ok (.invokevirtual 31, 3) := by decide +kernel
theorem dL_293 : decode code 293 = .ok (.if_icmp .eq 767, 3) := by decide +kernel
theorem dL_296 : decode code 296 = .ok (.iconst 0, 1) := by decide +kernel
theorem dL_297 : decode code 297 = .ok (.ireturn, 1) := by decide +kernel
theorem dL_298 : decode code 298 = .ok (.aload_n 1, 1) := by decide +kernel
theorem dL_299 : decode code 299 = .ok (.invokevirtual 32, 3) := by decide +kernel
theorem dL_302 : decode code 302 = .ok (.aload_n 2, 1) := by decide +kernel
theorem dL_303 : decode code 303 = .ok (.invokevirtual 36, 3) := by decide +kernel
theorem dL_306 : decode code 306 = .ok (.if_icmp .eq 754, 3) := by decide +kernel
theorem dL_309 : decode code 309 = .ok (.iconst 0, 1) := by decide +kernel
theorem dL_310 : decode code 310 = .ok (.ireturn, 1) := by decide +kernel
theorem dL_311 : decode code 311 = .ok (.aload_n 1, 1) := by decide +kernel
theorem dL_312 : decode code 312 = .ok (.aload_n 0, 1) := by decide +kernel
theorem dL_313 : decode code 313 = .ok (.iload_n 3, 1) := by decide +kernel
theorem dL_314 : decode code 314 = .ok (.iconst 1, 1) := by decide +kernel
theorem dL_315 : decode code 315 = .ok (.iadd, 1) := by decide +kernel
theorem dL_316 : decode code 316 = .ok (.iaload, 1) := by decide +kernel
theorem dL_317 : decode code 317 = .ok (.invokevirtual 37, 3) := by decide +kernel
theorem dL_320 : decode code 320 = .ok (.aload_n 2, 1) := by decide +kernel
theorem dL_321 : decode code 321 = .ok (.aload_n 0, 1) := by decide +kernel
theorem dL_322 : decode code 322 = .ok (.iload_n 3, 1) := by decide +kernel
theorem dL_323 : decode code 323 = .ok (.iconst 1, 1) := by decide +kernel
theorem dL_324 : decode code 324 = .ok (.iadd, 1) := by decide +kernel
theorem dL_325 : decode code 325 = .ok (.iaload, 1) := by decide +kernel
theorem dL_326 : decode code 326 = .ok (.invokevirtual 40, 3) := by decide +kernel
theorem dL_329 : decode code 329 = .ok (.if_icmp .eq 731, 3) := by decide +kernel
theorem dL_332 : decode code 332 = .ok (.iconst 0, 1) := by decide +kernel
theorem dL_333 : decode code 333 = .ok (.ireturn, 1) := by decide +kernel
theorem dL_334 : decode code 334 = .ok (.aload_n 1, 1) := by decide +kernel
theorem dL_335 : decode code 335 = .ok (.aload_n 0, 1) := by decide +kernel
theorem dL_336 : decode code 336 = .ok (.iload_n 3, 1) := by decide +kernel
theorem dL_337 : decode code 337 = .ok (.iconst 1, 1) := by decide +kernel
theorem dL_338 : decode code 338 = .ok (.iadd, 1) := by decide +kernel
theorem dL_339 : decode code 339 = .ok (.iaload, 1) := by decide +kernel
theorem dL_340 : decode code 340 = .ok (.aload_n 0, 1) := by decide +kernel
theorem dL_341 : decode code 341 = .ok (.iload_n 3, 1) := by decide +kernel
theorem dL_342 : decode code 342 = .ok (.iconst 2, 1) := by decide +kernel
theorem dL_343 : decode code 343 = .ok (.iadd, 1) := by decide +kernel
theorem dL_344 : decode code 344 = .ok (.iaload, 1) := by decide +kernel
theorem dL_345 : decode code 345 = .ok (.invokevirtual 41, 3) := by decide +kernel
theorem dL_348 : decode code 348 = .ok (.aload_n 2, 1) := by decide +kernel
theorem dL_349 : decode code 349 = .ok (.aload_n 0, 1) := by decide +kernel
theorem dL_350 : decode code 350 = .ok (.iload_n 3, 1) := by decide +kernel
theorem dL_351 : decode code 351 = .ok (.iconst 1, 1) := by decide +kernel
theorem dL_352 : decode code 352 = .ok (.iadd, 1) := by decide +kernel
theorem dL_353 : decode code 353 = .ok (.iaload, 1) := by decide +kernel
theorem dL_354 : decode code 354 = .ok (.aload_n 0, 1) := by decide +kernel
theorem dL_355 : decode code 355 = .ok (.iload_n 3, 1) := by decide +kernel
theorem dL_356 : decode code 356 = .ok (.iconst 2, 1) := by decide +kernel
theorem dL_357 : decode code 357 = .ok (.iadd, 1) := by decide +kernel
theorem dL_358 : decode code 358 = .ok (.iaload, 1) := by decide +kernel
theorem dL_359 : decode code 359 = .ok (.invokevirtual 44, 3) := by decide +kernel
theorem dL_362 : decode code 362 = .ok (.if_icmp .eq 698, 3) := by decide +kernel
theorem dL_365 : decode code 365 = .ok (.iconst 0, 1) := by decide +kernel
theorem dL_366 : decode code 366 = .ok (.ireturn, 1) := by decide +kernel
theorem dL_367 : decode code 367 = .ok (.aload_n 1, 1) := by decide +kernel
theorem dL_368 : decode code 368 = .ok (.aload_n 0, 1) := by decide +kernel
theorem dL_369 : decode code 369 = .ok (.iload_n 3, 1) := by decide +kernel
theorem dL_370 : decode code 370 = .ok (.iconst 1, 1) := by decide +kernel
theorem dL_371 : decode code 371 = .ok (.iadd, 1) := by decide +kernel
theorem dL_372 : decode code 372 = .ok (.iaload, 1) := by decide +kernel
theorem dL_373 : decode code 373 = .ok (.invokevirtual 45, 3) := by decide +kernel
theorem dL_376 : decode code 376 = .ok (.aload_n 2, 1) := by decide +kernel
theorem dL_377 : decode code 377 = .ok (.aload_n 0, 1) := by decide +kernel
theorem dL_378 : decode code 378 = .ok (.iload_n 3, 1) := by decide +kernel
theorem dL_379 : decode code 379 = .ok (.iconst 1, 1) := by decide +kernel
theorem dL_380 : decode code 380 = .ok (.iadd, 1) := by decide +kernel
theorem dL_381 : decode code 381 = .ok (.iaload, 1) := by decide +kernel
theorem dL_382 : decode code 382 = .ok (.invokevirtual 48, 3) := by decide +kernel
theorem dL_385 : decode code 385 = .ok (.if_icmp .eq 675, 3) := by decide +kernel
theorem dL_388 : decode code 388 = .ok (.iconst 0, 1) := by decide +kernel
theorem dL_389 : decode code 389 = .ok (.ireturn, 1) := by decide +kernel
theorem dL_390 : decode code 390 = .ok (.aload_n 1, 1) := by decide +kernel
theorem dL_391 : decode code 391 = .ok (.aload_n 0, 1) := by decide +kernel
theorem dL_392 : decode code 392 = .ok (.iload_n 3, 1) := by decide +kernel
theorem dL_393 : decode code 393 = .ok (.iconst 1, 1) := by decide +kernel
theorem dL_394 : decode code 394 = .ok (.iadd, 1) := by decide +kernel
theorem dL_395 : decode code 395 = .ok (.iaload, 1) := by decide +kernel
theorem dL_396 : decode code 396 = .ok (.aload_n 0, 1) := by decide +kernel
theorem dL_397 : decode code 397 = .ok (.iload_n 3, 1) := by decide +kernel
theorem dL_398 : decode code 398 = .ok (.iconst 2, 1) := by decide +kernel
theorem dL_399 : decode code 399 = .ok (.iadd, 1) := by decide +kernel
theorem dL_400 : decode code 400 = .ok (.iaload, 1) := by decide +kernel
theorem dL_401 : decode code 401 = .ok (.aload_n 0, 1) := by decide +kernel
theorem dL_402 : decode code 402 = .ok (.iload_n 3, 1) := by decide +kernel
theorem dL_403 : decode code 403 = .ok (.iconst 3, 1) := by decide +kernel
theorem dL_404 : decode code 404 = .ok (.iadd, 1) := by decide +kernel
theorem dL_405 : decode code 405 = .ok (.iaload, 1) := by decide +kernel
theorem dL_406 : decode code 406 = .ok (.invokevirtual 49, 3) := by decide +kernel
theorem dL_409 : decode code 409 = .ok (.aload_n 2, 1) := by decide +kernel
theorem dL_410 : decode code 410 = .ok (.aload_n 0, 1) := by decide +kernel
theorem dL_411 : decode code 411 = .ok (.iload_n 3, 1) := by decide +kernel
theorem dL_412 : decode code 412 = .ok (.iconst 1, 1) := by decide +kernel
theorem dL_413 : decode code 413 = .ok (.iadd, 1) := by decide +kernel
theorem dL_414 : decode code 414 = .ok (.iaload, 1) := by decide +kernel
theorem dL_415 : decode code 415 = .ok (.aload_n 0, 1) := by decide +kernel
theorem dL_416 : decode code 416 = .ok (.iload_n 3, 1) := by decide +kernel
theorem dL_417 : decode code 417 = .ok (.iconst 2, 1) := by decide +kernel
theorem dL_418 : decode code 418 = .ok (.iadd, 1) := by decide +kernel
theorem dL_419 : decode code 419 = .ok (.iaload, 1) := by decide +kernel
theorem dL_420 : decode code 420 = .ok (.aload_n 0, 1) := by decide +kernel
theorem dL_421 : decode code 421 = .ok (.iload_n 3, 1) := by decide +kernel
theorem dL_422 : decode code 422 = .ok (.iconst 3, 1) := by decide +kernel
theorem dL_423 : decode code 423 = .ok (.iadd, 1) := by decide +kernel
theorem dL_424 : decode code 424 = .ok (.iaload, 1) := by decide +kernel
theorem dL_425 : decode code 425 = .ok (.invokevirtual 53, 3) := by decide +kernel
theorem dL_428 : decode code 428 = .ok (.lcmp, 1) := by decide +kernel
theorem dL_429 : decode code 429 = .ok (.ifCond .eq 631, 3) := by decide +kernel
theorem dL_432 : decode code 432 = .ok (.iconst 0, 1) := by decide +kernel
theorem dL_433 : decode code 433 = .ok (.ireturn, 1) := by decide +kernel
theorem dL_434 : decode code 434 = .ok (.aload_n 1, 1) := by decide +kernel
theorem dL_435 : decode code 435 = .ok (.aload_n 0, 1) := by decide +kernel
theorem dL_436 : decode code 436 = .ok (.iload_n 3, 1) := by decide +kernel
theorem dL_437 : decode code 437 = .ok (.iconst 1, 1) := by decide +kernel
theorem dL_438 : decode code 438 = .ok (.iadd, 1) := by decide +kernel
theorem dL_439 : decode code 439 = .ok (.iaload, 1) := by decide +kernel
theorem dL_440 : decode code 440 = .ok (.aload_n 0, 1) := by decide +kernel
theorem dL_441 : decode code 441 = .ok (.iload_n 3, 1) := by decide +kernel
theorem dL_442 : decode code 442 = .ok (.iconst 2, 1) := by decide +kernel
theorem dL_443 : decode code 443 = .ok (.iadd, 1) := by decide +kernel
theorem dL_444 : decode code 444 = .ok (.iaload, 1) := by decide +kernel
theorem dL_445 : decode code 445 = .ok (.aload_n 0, 1) := by decide +kernel
theorem dL_446 : decode code 446 = .ok (.iload_n 3, 1) := by decide +kernel
theorem dL_447 : decode code 447 = .ok (.iconst 3, 1) := by decide +kernel
theorem dL_448 : decode code 448 = .ok (.iadd, 1) := by decide +kernel
theorem dL_449 : decode code 449 = .ok (.iaload, 1) := by decide +kernel
theorem dL_450 : decode code 450 = .ok (.invokevirtual 54, 3) := by decide +kernel
theorem dL_453 : decode code 453 = .ok (.aload_n 2, 1) := by decide +kernel
theorem dL_454 : decode code 454 = .ok (.aload_n 0, 1) := by decide +kernel
theorem dL_455 : decode code 455 = .ok (.iload_n 3, 1) := by decide +kernel
theorem dL_456 : decode code 456 = .ok (.iconst 1, 1) := by decide +kernel
theorem dL_457 : decode code 457 = .ok (.iadd, 1) := by decide +kernel
theorem dL_458 : decode code 458 = .ok (.iaload, 1) := by decide +kernel
theorem dL_459 : decode code 459 = .ok (.aload_n 0, 1) := by decide +kernel
theorem dL_460 : decode code 460 = .ok (.iload_n 3, 1) := by decide +kernel
theorem dL_461 : decode code 461 = .ok (.iconst 2, 1) := by decide +kernel
theorem dL_462 : decode code 462 = .ok (.iadd, 1) := by decide +kernel
theorem dL_463 : decode code 463 = .ok (.iaload, 1) := by decide +kernel
theorem dL_464 : decode code 464 = .ok (.aload_n 0, 1) := by decide +kernel
theorem dL_465 : decode code 465 = .ok (.iload_n 3, 1) := by decide +kernel
theorem dL_466 : decode code 466 = .ok (.iconst 3, 1) := by decide +kernel
theorem dL_467 : decode code 467 = .ok (.iadd, 1) := by decide +kernel
theorem dL_468 : decode code 468 = .ok (.iaload, 1) := by decide +kernel
theorem dL_469 : decode code 469 = .ok (.invokevirtual 57, 3) := by decide +kernel
theorem dL_472 : decode code 472 = .ok (.lcmp, 1) := by decide +kernel
theorem dL_473 : decode code 473 = .ok (.ifCond .eq 587, 3) := by decide +kernel
theorem dL_476 : decode code 476 = .ok (.iconst 0, 1) := by decide +kernel
theorem dL_477 : decode code 477 = .ok (.ireturn, 1) := by decide +kernel
theorem dL_478 : decode code 478 = .ok (.aload_n 1, 1) := by decide +kernel
theorem dL_479 : decode code 479 = .ok (.aload_n 0, 1) := by decide +kernel
theorem dL_480 : decode code 480 = .ok (.iload_n 3, 1) := by decide +kernel
theorem dL_481 : decode code 481 = .ok (.iconst 1, 1) := by decide +kernel
theorem dL_482 : decode code 482 = .ok (.iadd, 1) := by decide +kernel
theorem dL_483 : decode code 483 = .ok (.iaload, 1) := by decide +kernel
theorem dL_484 : decode code 484 = .ok (.aload_n 0, 1) := by decide +kernel
theorem dL_485 : decode code 485 = .ok (.iload_n 3, 1) := by decide +kernel
theorem dL_486 : decode code 486 = .ok (.iconst 2, 1) := by decide +kernel
theorem dL_487 : decode code 487 = .ok (.iadd, 1) := by decide +kernel
theorem dL_488 : decode code 488 = .ok (.iaload, 1) := by decide +kernel
theorem dL_489 : decode code 489 = .ok (.invokevirtual 58, 3) := by decide +kernel
theorem dL_492 : decode code 492 = .ok (.aload_n 2, 1) := by decide +kernel
theorem dL_493 : decode code 493 = .ok (.aload_n 0, 1) := by decide +kernel
theorem dL_494 : decode code 494 = .ok (.iload_n 3, 1) := by decide +kernel
theorem dL_495 : decode code 495 = .ok (.iconst 1, 1) := by decide +kernel
theorem dL_496 : decode code 496 = .ok (.iadd, 1) := by decide +kernel
theorem dL_497 : decode code 497 = .ok (.iaload, 1) := by decide +kernel
theorem dL_498 : decode code 498 = .ok (.aload_n 0, 1) := by decide +kernel
theorem dL_499 : decode code 499 = .ok (.iload_n 3, 1) := by decide +kernel
theorem dL_500 : decode code 500 = .ok (.iconst 2, 1) := by decide +kernel
theorem dL_501 : decode code 501 = .ok (.iadd, 1) := by decide +kernel
theorem dL_502 : decode code 502 = .ok (.iaload, 1) := by decide +kernel
theorem dL_503 : decode code 503 = .ok (.invokevirtual 61, 3) := by decide +kernel
theorem dL_506 : decode code 506 = .ok (.if_icmp .eq 554, 3) := by decide +kernel
theorem dL_509 : decode code 509 = .ok (.iconst 0, 1) := by decide +kernel
theorem dL_510 : decode code 510 = .ok (.ireturn, 1) := by decide +kernel
theorem dL_511 : decode code 511 = .ok (.aload_n 1, 1) := by decide +kernel
theorem dL_512 : decode code 512 = .ok (.aload_n 0, 1) := by decide +kernel
theorem dL_513 : decode code 513 = .ok (.iload_n 3, 1) := by decide +kernel
theorem dL_514 : decode code 514 = .ok (.iconst 1, 1) := by decide +kernel
theorem dL_515 : decode code 515 = .ok (.iadd, 1) := by decide +kernel
theorem dL_516 : decode code 516 = .ok (.iaload, 1) := by decide +kernel
theorem dL_517 : decode code 517 = .ok (.aload_n 0, 1) := by decide +kernel
theorem dL_518 : decode code 518 = .ok (.iload_n 3, 1) := by decide +kernel
theorem dL_519 : decode code 519 = .ok (.iconst 2, 1) := by decide +kernel
theorem dL_520 : decode code 520 = .ok (.iadd, 1) := by decide +kernel
theorem dL_521 : decode code 521 = .ok (.iaload, 1) := by decide +kernel
theorem dL_522 : decode code 522 = .ok (.invokevirtual 62, 3) := by decide +kernel
theorem dL_525 : decode code 525 = .ok (.aload_n 2, 1) := by decide +kernel
theorem dL_526 : decode code 526 = .ok (.aload_n 0, 1) := by decide +kernel
theorem dL_527 : decode code 527 = .ok (.iload_n 3, 1) := by decide +kernel
theorem dL_528 : decode code 528 = .ok (.iconst 1, 1) := by decide +kernel
theorem dL_529 : decode code 529 = .ok (.iadd, 1) := by decide +kernel
theorem dL_530 : decode code 530 = .ok (.iaload, 1) := by decide +kernel
theorem dL_531 : decode code 531 = .ok (.aload_n 0, 1) := by decide +kernel
theorem dL_532 : decode code 532 = .ok (.iload_n 3, 1) := by decide +kernel
theorem dL_533 : decode code 533 = .ok (.iconst 2, 1) := by decide +kernel
theorem dL_534 : decode code 534 = .ok (.iadd, 1) := by decide +kernel
theorem dL_535 : decode code 535 = .ok (.iaload, 1) := by decide +kernel
theorem dL_536 : decode code 536 = .ok (.invokevirtual 65, 3) := by decide +kernel
theorem dL_539 : decode code 539 = .ok (.if_icmp .eq 521, 3) := by decide +kernel
theorem dL_542 : decode code 542 = .ok (.iconst 0, 1) := by decide +kernel
theorem dL_543 : decode code 543 = .ok (.ireturn, 1) := by decide +kernel
theorem dL_544 : decode code 544 = .ok (.aload_n 1, 1) := by decide +kernel
theorem dL_545 : decode code 545 = .ok (.aload_n 0, 1) := by decide +kernel
theorem dL_546 : decode code 546 = .ok (.iload_n 3, 1) := by decide +kernel
theorem dL_547 : decode code 547 = .ok (.iconst 1, 1) := by decide +kernel
theorem dL_548 : decode code 548 = .ok (.iadd, 1) := by decide +kernel
theorem dL_549 : decode code 549 = .ok (.iaload, 1) := by decide +kernel
theorem dL_550 : decode code 550 = .ok (.invokevirtual 66, 3) := by decide +kernel
theorem dL_553 : decode code 553 = .ok (.aload_n 2, 1) := by decide +kernel
theorem dL_554 : decode code 554 = .ok (.aload_n 0, 1) := by decide +kernel
theorem dL_555 : decode code 555 = .ok (.iload_n 3, 1) := by decide +kernel
theorem dL_556 : decode code 556 = .ok (.iconst 1, 1) := by decide +kernel
theorem dL_557 : decode code 557 = .ok (.iadd, 1) := by decide +kernel
theorem dL_558 : decode code 558 = .ok (.iaload, 1) := by decide +kernel
theorem dL_559 : decode code 559 = .ok (.invokevirtual 69, 3) := by decide +kernel
theorem dL_562 : decode code 562 = .ok (.if_icmp .eq 498, 3) := by decide +kernel
theorem dL_565 : decode code 565 = .ok (.iconst 0, 1) := by decide +kernel
theorem dL_566 : decode code 566 = .ok (.ireturn, 1) := by decide +kernel
theorem dL_567 : decode code 567 = .ok (.aload_n 1, 1) := by decide +kernel
theorem dL_568 : decode code 568 = .ok (.aload_n 0, 1) := by decide +kernel
theorem dL_569 : decode code 569 = .ok (.iload_n 3, 1) := by decide +kernel
theorem dL_570 : decode code 570 = .ok (.iconst 1, 1) := by decide +kernel
theorem dL_571 : decode code 571 = .ok (.iadd, 1) := by decide +kernel
theorem dL_572 : decode code 572 = .ok (.iaload, 1) := by decide +kernel
theorem dL_573 : decode code 573 = .ok (.invokevirtual 70, 3) := by decide +kernel
theorem dL_576 : decode code 576 = .ok (.aload_n 2, 1) := by decide +kernel
theorem dL_577 : decode code 577 = .ok (.aload_n 0, 1) := by decide +kernel
theorem dL_578 : decode code 578 = .ok (.iload_n 3, 1) := by decide +kernel
theorem dL_579 : decode code 579 = .ok (.iconst 1, 1) := by decide +kernel
theorem dL_580 : decode code 580 = .ok (.iadd, 1) := by decide +kernel
theorem dL_581 : decode code 581 = .ok (.iaload, 1) := by decide +kernel
theorem dL_582 : decode code 582 = .ok (.invokevirtual 73, 3) := by decide +kernel
theorem dL_585 : decode code 585 = .ok (.if_icmp .eq 475, 3) := by decide +kernel
theorem dL_588 : decode code 588 = .ok (.iconst 0, 1) := by decide +kernel
theorem dL_589 : decode code 589 = .ok (.ireturn, 1) := by decide +kernel
theorem dL_590 : decode code 590 = .ok (.aload_n 1, 1) := by decide +kernel
theorem dL_591 : decode code 591 = .ok (.aload_n 0, 1) := by decide +kernel
theorem dL_592 : decode code 592 = .ok (.iload_n 3, 1) := by decide +kernel
theorem dL_593 : decode code 593 = .ok (.iconst 1, 1) := by decide +kernel
theorem dL_594 : decode code 594 = .ok (.iadd, 1) := by decide +kernel
theorem dL_595 : decode code 595 = .ok (.iaload, 1) := by decide +kernel
theorem dL_596 : decode code 596 = .ok (.aload_n 0, 1) := by decide +kernel
theorem dL_597 : decode code 597 = .ok (.iload_n 3, 1) := by decide +kernel
theorem dL_598 : decode code 598 = .ok (.iconst 2, 1) := by decide +kernel
theorem dL_599 : decode code 599 = .ok (.iadd, 1) := by decide +kernel
theorem dL_600 : decode code 600 = .ok (.iaload, 1) := by decide +kernel
theorem dL_601 : decode code 601 = .ok (.aload_n 0, 1) := by decide +kernel
theorem dL_602 : decode code 602 = .ok (.iload_n 3, 1) := by decide +kernel
theorem dL_603 : decode code 603 = .ok (.iconst 3, 1) := by decide +kernel
theorem dL_604 : decode code 604 = .ok (.iadd, 1) := by decide +kernel
theorem dL_605 : decode code 605 = .ok (.iaload, 1) := by decide +kernel
theorem dL_606 : decode code 606 = .ok (.invokevirtual 74, 3) := by decide +kernel
theorem dL_609 : decode code 609 = .ok (.aload_n 2, 1) := by decide +kernel
theorem dL_610 : decode code 610 = .ok (.aload_n 0, 1) := by decide +kernel
theorem dL_611 : decode code 611 = .ok (.iload_n 3, 1) := by decide +kernel
theorem dL_612 : decode code 612 = .ok (.iconst 1, 1) := by decide +kernel
theorem dL_613 : decode code 613 = .ok (.iadd, 1) := by decide +kernel
theorem dL_614 : decode code 614 = .ok (.iaload, 1) := by decide +kernel
theorem dL_615 : decode code 615 = .ok (.aload_n 0, 1) := by decide +kernel
theorem dL_616 : decode code 616 = .ok (.iload_n 3, 1) := by decide +kernel
theorem dL_617 : decode code 617 = .ok (.iconst 2, 1) := by decide +kernel
theorem dL_618 : decode code 618 = .ok (.iadd, 1) := by decide +kernel
theorem dL_619 : decode code 619 = .ok (.iaload, 1) := by decide +kernel
theorem dL_620 : decode code 620 = .ok (.aload_n 0, 1) := by decide +kernel
theorem dL_621 : decode code 621 = .ok (.iload_n 3, 1) := by decide +kernel
theorem dL_622 : decode code 622 = .ok (.iconst 3, 1) := by decide +kernel
theorem dL_623 : decode code 623 = .ok (.iadd, 1) := by decide +kernel
theorem dL_624 : decode code 624 = .ok (.iaload, 1) := by decide +kernel
theorem dL_625 : decode code 625 = .ok (.invokevirtual 77, 3) := by decide +kernel
theorem dL_628 : decode code 628 = .ok (.if_icmp .eq 432, 3) := by decide +kernel
theorem dL_631 : decode code 631 = .ok (.iconst 0, 1) := by decide +kernel
theorem dL_632 : decode code 632 = .ok (.ireturn, 1) := by decide +kernel
theorem dL_633 : decode code 633 = .ok (.aload_n 1, 1) := by decide +kernel
theorem dL_634 : decode code 634 = .ok (.aload_n 0, 1) := by decide +kernel
theorem dL_635 : decode code 635 = .ok (.iload_n 3, 1) := by decide +kernel
theorem dL_636 : decode code 636 = .ok (.iconst 1, 1) := by decide +kernel
theorem dL_637 : decode code 637 = .ok (.iadd, 1) := by decide +kernel
theorem dL_638 : decode code 638 = .ok (.iaload, 1) := by decide +kernel
theorem dL_639 : decode code 639 = .ok (.aload_n 0, 1) := by decide +kernel
theorem dL_640 : decode code 640 = .ok (.iload_n 3, 1) := by decide +kernel
theorem dL_641 : decode code 641 = .ok (.iconst 2, 1) := by decide +kernel
theorem dL_642 : decode code 642 = .ok (.iadd, 1) := by decide +kernel
theorem dL_643 : decode code 643 = .ok (.iaload, 1) := by decide +kernel
theorem dL_644 : decode code 644 = .ok (.aload_n 0, 1) := by decide +kernel
theorem dL_645 : decode code 645 = .ok (.iload_n 3, 1) := by decide +kernel
theorem dL_646 : decode code 646 = .ok (.iconst 3, 1) := by decide +kernel
theorem dL_647 : decode code 647 = .ok (.iadd, 1) := by decide +kernel
theorem dL_648 : decode code 648 = .ok (.iaload, 1) := by decide +kernel
theorem dL_649 : decode code 649 = .ok (.invokevirtual 78, 3) := by decide +kernel
theorem dL_652 : decode code 652 = .ok (.aload_n 2, 1) := by decide +kernel
theorem dL_653 : decode code 653 = .ok (.aload_n 0, 1) := by decide +kernel
theorem dL_654 : decode code 654 = .ok (.iload_n 3, 1) := by decide +kernel
theorem dL_655 : decode code 655 = .ok (.iconst 1, 1) := by decide +kernel
theorem dL_656 : decode code 656 = .ok (.iadd, 1) := by decide +kernel
theorem dL_657 : decode code 657 = .ok (.iaload, 1) := by decide +kernel
theorem dL_658 : decode code 658 = .ok (.aload_n 0, 1) := by decide +kernel
theorem dL_659 : decode code 659 = .ok (.iload_n 3, 1) := by decide +kernel
theorem dL_660 : decode code 660 = .ok (.iconst 2, 1) := by decide +kernel
theorem dL_661 : decode code 661 = .ok (.iadd, 1) := by decide +kernel
theorem dL_662 : decode code 662 = .ok (.iaload, 1) := by decide +kernel
theorem dL_663 : decode code 663 = .ok (.aload_n 0, 1) := by decide +kernel
theorem dL_664 : decode code 664 = .ok (.iload_n 3, 1) := by decide +kernel
theorem dL_665 : decode code 665 = .ok (.iconst 3, 1) := by decide +kernel
theorem dL_666 : decode code 666 = .ok (.iadd, 1) := by decide +kernel
theorem dL_667 : decode code 667 = .ok (.iaload, 1) := by decide +kernel
theorem dL_668 : decode code 668 = .ok (.invokevirtual 81, 3) := by decide +kernel
theorem dL_671 : decode code 671 = .ok (.if_icmp .eq 389, 3) := by decide +kernel
theorem dL_674 : decode code 674 = .ok (.iconst 0, 1) := by decide +kernel
theorem dL_675 : decode code 675 = .ok (.ireturn, 1) := by decide +kernel
theorem dL_676 : decode code 676 = .ok (.aload_n 1, 1) := by decide +kernel
theorem dL_677 : decode code 677 = .ok (.aload_n 0, 1) := by decide +kernel
theorem dL_678 : decode code 678 = .ok (.iload_n 3, 1) := by decide +kernel
theorem dL_679 : decode code 679 = .ok (.iconst 1, 1) := by decide +kernel
theorem dL_680 : decode code 680 = .ok (.iadd, 1) := by decide +kernel
theorem dL_681 : decode code 681 = .ok (.iaload, 1) := by decide +kernel
theorem dL_682 : decode code 682 = .ok (.aload_n 0, 1) := by decide +kernel
theorem dL_683 : decode code 683 = .ok (.iload_n 3, 1) := by decide +kernel
theorem dL_684 : decode code 684 = .ok (.iconst 2, 1) := by decide +kernel
theorem dL_685 : decode code 685 = .ok (.iadd, 1) := by decide +kernel
theorem dL_686 : decode code 686 = .ok (.iaload, 1) := by decide +kernel
theorem dL_687 : decode code 687 = .ok (.invokevirtual 82, 3) := by decide +kernel
theorem dL_690 : decode code 690 = .ok (.aload_n 2, 1) := by decide +kernel
theorem dL_691 : decode code 691 = .ok (.aload_n 0, 1) := by decide +kernel
theorem dL_692 : decode code 692 = .ok (.iload_n 3, 1) := by decide +kernel
theorem dL_693 : decode code 693 = .ok (.iconst 1, 1) := by decide +kernel
theorem dL_694 : decode code 694 = .ok (.iadd, 1) := by decide +kernel
theorem dL_695 : decode code 695 = .ok (.iaload, 1) := by decide +kernel
theorem dL_696 : decode code 696 = .ok (.aload_n 0, 1) := by decide +kernel
theorem dL_697 : decode code 697 = .ok (.iload_n 3, 1) := by decide +kernel
theorem dL_698 : decode code 698 = .ok (.iconst 2, 1) := by decide +kernel
theorem dL_699 : decode code 699 = .ok (.iadd, 1) := by decide +kernel
theorem dL_700 : decode code 700 = .ok (.iaload, 1) := by decide +kernel
theorem dL_701 : decode code 701 = .ok (.invokevirtual 85, 3) := by decide +kernel
theorem dL_704 : decode code 704 = .ok (.if_icmp .eq 356, 3) := by decide +kernel
theorem dL_707 : decode code 707 = .ok (.iconst 0, 1) := by decide +kernel
theorem dL_708 : decode code 708 = .ok (.ireturn, 1) := by decide +kernel
theorem dL_709 : decode code 709 = .ok (.aload_n 1, 1) := by decide +kernel
theorem dL_710 : decode code 710 = .ok (.aload_n 0, 1) := by decide +kernel
theorem dL_711 : decode code 711 = .ok (.iload_n 3, 1) := by decide +kernel
theorem dL_712 : decode code 712 = .ok (.iconst 1, 1) := by decide +kernel
theorem dL_713 : decode code 713 = .ok (.iadd, 1) := by decide +kernel
theorem dL_714 : decode code 714 = .ok (.iaload, 1) := by decide +kernel
theorem dL_715 : decode code 715 = .ok (.invokevirtual 86, 3) := by decide +kernel
theorem dL_718 : decode code 718 = .ok (.aload_n 2, 1) := by decide +kernel
theorem dL_719 : decode code 719 = .ok (.aload_n 0, 1) := by decide +kernel
theorem dL_720 : decode code 720 = .ok (.iload_n 3, 1) := by decide +kernel
theorem dL_721 : decode code 721 = .ok (.iconst 1, 1) := by decide +kernel
theorem dL_722 : decode code 722 = .ok (.iadd, 1) := by decide +kernel
theorem dL_723 : decode code 723 = .ok (.iaload, 1) := by decide +kernel
theorem dL_724 : decode code 724 = .ok (.invokevirtual 89, 3) := by decide +kernel
theorem dL_727 : decode code 727 = .ok (.if_icmp .eq 333, 3) := by decide +kernel
theorem dL_730 : decode code 730 = .ok (.iconst 0, 1) := by decide +kernel
theorem dL_731 : decode code 731 = .ok (.ireturn, 1) := by decide +kernel
theorem dL_732 : decode code 732 = .ok (.aload_n 1, 1) := by decide +kernel
theorem dL_733 : decode code 733 = .ok (.aload_n 0, 1) := by decide +kernel
theorem dL_734 : decode code 734 = .ok (.iload_n 3, 1) := by decide +kernel
theorem dL_735 : decode code 735 = .ok (.iconst 1, 1) := by decide +kernel
theorem dL_736 : decode code 736 = .ok (.iadd, 1) := by decide +kernel
theorem dL_737 : decode code 737 = .ok (.iaload, 1) := by decide +kernel
theorem dL_738 : decode code 738 = .ok (.aload_n 0, 1) := by decide +kernel
theorem dL_739 : decode code 739 = .ok (.iload_n 3, 1) := by decide +kernel
theorem dL_740 : decode code 740 = .ok (.iconst 2, 1) := by decide +kernel
theorem dL_741 : decode code 741 = .ok (.iadd, 1) := by decide +kernel
theorem dL_742 : decode code 742 = .ok (.iaload, 1) := by decide +kernel
theorem dL_743 : decode code 743 = .ok (.aload_n 0, 1) := by decide +kernel
theorem dL_744 : decode code 744 = .ok (.iload_n 3, 1) := by decide +kernel
theorem dL_745 : decode code 745 = .ok (.iconst 3, 1) := by decide +kernel
theorem dL_746 : decode code 746 = .ok (.iadd, 1) := by decide +kernel
theorem dL_747 : decode code 747 = .ok (.iaload, 1) := by decide +kernel
theorem dL_748 : decode code 748 = .ok (.invokevirtual 90, 3) := by decide +kernel
theorem dL_751 : decode code 751 = .ok (.aload_n 2, 1) := by decide +kernel
theorem dL_752 : decode code 752 = .ok (.aload_n 0, 1) := by decide +kernel
theorem dL_753 : decode code 753 = .ok (.iload_n 3, 1) := by decide +kernel
theorem dL_754 : decode code 754 = .ok (.iconst 1, 1) := by decide +kernel
theorem dL_755 : decode code 755 = .ok (.iadd, 1) := by decide +kernel
theorem dL_756 : decode code 756 = .ok (.iaload, 1) := by decide +kernel
theorem dL_757 : decode code 757 = .ok (.aload_n 0, 1) := by decide +kernel
theorem dL_758 : decode code 758 = .ok (.iload_n 3, 1) := by decide +kernel
theorem dL_759 : decode code 759 = .ok (.iconst 2, 1) := by decide +kernel
theorem dL_760 : decode code 760 = .ok (.iadd, 1) := by decide +kernel
theorem dL_761 : decode code 761 = .ok (.iaload, 1) := by decide +kernel
theorem dL_762 : decode code 762 = .ok (.aload_n 0, 1) := by decide +kernel
theorem dL_763 : decode code 763 = .ok (.iload_n 3, 1) := by decide +kernel
theorem dL_764 : decode code 764 = .ok (.iconst 3, 1) := by decide +kernel
theorem dL_765 : decode code 765 = .ok (.iadd, 1) := by decide +kernel
theorem dL_766 : decode code 766 = .ok (.iaload, 1) := by decide +kernel
theorem dL_767 : decode code 767 = .ok (.invokevirtual 93, 3) := by decide +kernel
theorem dL_770 : decode code 770 = .ok (.lcmp, 1) := by decide +kernel
theorem dL_771 : decode code 771 = .ok (.ifCond .eq 289, 3) := by decide +kernel
theorem dL_774 : decode code 774 = .ok (.iconst 0, 1) := by decide +kernel
theorem dL_775 : decode code 775 = .ok (.ireturn, 1) := by decide +kernel
theorem dL_776 : decode code 776 = .ok (.aload_n 1, 1) := by decide +kernel
theorem dL_777 : decode code 777 = .ok (.invokevirtual 94, 3) := by decide +kernel
theorem dL_780 : decode code 780 = .ok (.aload_n 2, 1) := by decide +kernel
theorem dL_781 : decode code 781 = .ok (.invokevirtual 97, 3) := by decide +kernel
theorem dL_784 : decode code 784 = .ok (.if_icmp .eq 276, 3) := by decide +kernel
theorem dL_787 : decode code 787 = .ok (.iconst 0, 1) := by decide +kernel
theorem dL_788 : decode code 788 = .ok (.ireturn, 1) := by decide +kernel
theorem dL_789 : decode code 789 = .ok (.aload_n 1, 1) := by decide +kernel
theorem dL_790 : decode code 790 = .ok (.invokevirtual 98, 3) := by decide +kernel
theorem dL_793 : decode code 793 = .ok (.aload_n 2, 1) := by decide +kernel
theorem dL_794 : decode code 794 = .ok (.invokevirtual 101, 3) := by decide +kernel
theorem dL_797 : decode code 797 = .ok (.if_icmp .eq 263, 3) := by decide +kernel
theorem dL_800 : decode code 800 = .ok (.iconst 0, 1) := by decide +kernel
theorem dL_801 : decode code 801 = .ok (.ireturn, 1) := by decide +kernel
theorem dL_802 : decode code 802 = .ok (.aload_n 1, 1) := by decide +kernel
theorem dL_803 : decode code 803 = .ok (.aload_n 0, 1) := by decide +kernel
theorem dL_804 : decode code 804 = .ok (.iload_n 3, 1) := by decide +kernel
theorem dL_805 : decode code 805 = .ok (.iconst 1, 1) := by decide +kernel
theorem dL_806 : decode code 806 = .ok (.iadd, 1) := by decide +kernel
theorem dL_807 : decode code 807 = .ok (.iaload, 1) := by decide +kernel
theorem dL_808 : decode code 808 = .ok (.invokevirtual 102, 3) := by decide +kernel
theorem dL_811 : decode code 811 = .ok (.aload_n 2, 1) := by decide +kernel
theorem dL_812 : decode code 812 = .ok (.aload_n 0, 1) := by decide +kernel
theorem dL_813 : decode code 813 = .ok (.iload_n 3, 1) := by decide +kernel
theorem dL_814 : decode code 814 = .ok (.iconst 1, 1) := by decide +kernel
theorem dL_815 : decode code 815 = .ok (.iadd, 1) := by decide +kernel
theorem dL_816 : decode code 816 = .ok (.iaload, 1) := by decide +kernel
theorem dL_817 : decode code 817 = .ok (.invokevirtual 105, 3) := by decide +kernel
theorem dL_820 : decode code 820 = .ok (.if_icmp .eq 240, 3) := by decide +kernel
theorem dL_823 : decode code 823 = .ok (.iconst 0, 1) := by decide +kernel
theorem dL_824 : decode code 824 = .ok (.ireturn, 1) := by decide +kernel
theorem dL_825 : decode code 825 = .ok (.aload_n 1, 1) := by decide +kernel
theorem dL_826 : decode code 826 = .ok (.aload_n 0, 1) := by decide +kernel
theorem dL_827 : decode code 827 = .ok (.iload_n 3, 1) := by decide +kernel
theorem dL_828 : decode code 828 = .ok (.iconst 1, 1) := by decide +kernel
theorem dL_829 : decode code 829 = .ok (.iadd, 1) := by decide +kernel
theorem dL_830 : decode code 830 = .ok (.iaload, 1) := by decide +kernel
theorem dL_831 : decode code 831 = .ok (.aload_n 0, 1) := by decide +kernel
theorem dL_832 : decode code 832 = .ok (.iload_n 3, 1) := by decide +kernel
theorem dL_833 : decode code 833 = .ok (.iconst 2, 1) := by decide +kernel
theorem dL_834 : decode code 834 = .ok (.iadd, 1) := by decide +kernel
theorem dL_835 : decode code 835 = .ok (.iaload, 1) := by decide +kernel
theorem dL_836 : decode code 836 = .ok (.aload_n 0, 1) := by decide +kernel
theorem dL_837 : decode code 837 = .ok (.iload_n 3, 1) := by decide +kernel
theorem dL_838 : decode code 838 = .ok (.iconst 3, 1) := by decide +kernel
theorem dL_839 : decode code 839 = .ok (.iadd, 1) := by decide +kernel
theorem dL_840 : decode code 840 = .ok (.iaload, 1) := by decide +kernel
theorem dL_841 : decode code 841 = .ok (.invokevirtual 106, 3) := by decide +kernel
theorem dL_844 : decode code 844 = .ok (.aload_n 2, 1) := by decide +kernel
theorem dL_845 : decode code 845 = .ok (.aload_n 0, 1) := by decide +kernel
theorem dL_846 : decode code 846 = .ok (.iload_n 3, 1) := by decide +kernel
theorem dL_847 : decode code 847 = .ok (.iconst 1, 1) := by decide +kernel
theorem dL_848 : decode code 848 = .ok (.iadd, 1) := by decide +kernel
theorem dL_849 : decode code 849 = .ok (.iaload, 1) := by decide +kernel
theorem dL_850 : decode code 850 = .ok (.aload_n 0, 1) := by decide +kernel
theorem dL_851 : decode code 851 = .ok (.iload_n 3, 1) := by decide +kernel
theorem dL_852 : decode code 852 = .ok (.iconst 2, 1) := by decide +kernel
theorem dL_853 : decode code 853 = .ok (.iadd, 1) := by decide +kernel
theorem dL_854 : decode code 854 = .ok (.iaload, 1) := by decide +kernel
theorem dL_855 : decode code 855 = .ok (.aload_n 0, 1) := by decide +kernel
theorem dL_856 : decode code 856 = .ok (.iload_n 3, 1) := by decide +kernel
theorem dL_857 : decode code 857 = .ok (.iconst 3, 1) := by decide +kernel
theorem dL_858 : decode code 858 = .ok (.iadd, 1) := by decide +kernel
theorem dL_859 : decode code 859 = .ok (.iaload, 1) := by decide +kernel
theorem dL_860 : decode code 860 = .ok (.invokevirtual 109, 3) := by decide +kernel
theorem dL_863 : decode code 863 = .ok (.if_icmp .eq 197, 3) := by decide +kernel
theorem dL_866 : decode code 866 = .ok (.iconst 0, 1) := by decide +kernel
theorem dL_867 : decode code 867 = .ok (.ireturn, 1) := by decide +kernel
theorem dL_868 : decode code 868 = .ok (.aload_n 1, 1) := by decide +kernel
theorem dL_869 : decode code 869 = .ok (.aload_n 0, 1) := by decide +kernel
theorem dL_870 : decode code 870 = .ok (.iload_n 3, 1) := by decide +kernel
theorem dL_871 : decode code 871 = .ok (.iconst 1, 1) := by decide +kernel
theorem dL_872 : decode code 872 = .ok (.iadd, 1) := by decide +kernel
theorem dL_873 : decode code 873 = .ok (.iaload, 1) := by decide +kernel
theorem dL_874 : decode code 874 = .ok (.aload_n 0, 1) := by decide +kernel
theorem dL_875 : decode code 875 = .ok (.iload_n 3, 1) := by decide +kernel
theorem dL_876 : decode code 876 = .ok (.iconst 2, 1) := by decide +kernel
theorem dL_877 : decode code 877 = .ok (.iadd, 1) := by decide +kernel
theorem dL_878 : decode code 878 = .ok (.iaload, 1) := by decide +kernel
theorem dL_879 : decode code 879 = .ok (.aload_n 0, 1) := by decide +kernel
theorem dL_880 : decode code 880 = .ok (.iload_n 3, 1) := by decide +kernel
theorem dL_881 : decode code 881 = .ok (.iconst 3, 1) := by decide +kernel
theorem dL_882 : decode code 882 = .ok (.iadd, 1) := by decide +kernel
theorem dL_883 : decode code 883 = .ok (.iaload, 1) := by decide +kernel
theorem dL_884 : decode code 884 = .ok (.invokevirtual 110, 3) := by decide +kernel
theorem dL_887 : decode code 887 = .ok (.aload_n 2, 1) := by decide +kernel
theorem dL_888 : decode code 888 = .ok (.aload_n 0, 1) := by decide +kernel
theorem dL_889 : decode code 889 = .ok (.iload_n 3, 1) := by decide +kernel
theorem dL_890 : decode code 890 = .ok (.iconst 1, 1) := by decide +kernel
theorem dL_891 : decode code 891 = .ok (.iadd, 1) := by decide +kernel
theorem dL_892 : decode code 892 = .ok (.iaload, 1) := by decide +kernel
theorem dL_893 : decode code 893 = .ok (.aload_n 0, 1) := by decide +kernel
theorem dL_894 : decode code 894 = .ok (.iload_n 3, 1) := by decide +kernel
theorem dL_895 : decode code 895 = .ok (.iconst 2, 1) := by decide +kernel
theorem dL_896 : decode code 896 = .ok (.iadd, 1) := by decide +kernel
theorem dL_897 : decode code 897 = .ok (.iaload, 1) := by decide +kernel
theorem dL_898 : decode code 898 = .ok (.aload_n 0, 1) := by decide +kernel
theorem dL_899 : decode code 899 = .ok (.iload_n 3, 1) := by decide +kernel
theorem dL_900 : decode code 900 = .ok (.iconst 3, 1) := by decide +kernel
theorem dL_901 : decode code 901 = .ok (.iadd, 1) := by decide +kernel
theorem dL_902 : decode code 902 = .ok (.iaload, 1) := by decide +kernel
theorem dL_903 : decode code 903 = .ok (.invokevirtual 113, 3) := by decide +kernel
theorem dL_906 : decode code 906 = .ok (.if_icmp .eq 154, 3) := by decide +kernel
theorem dL_909 : decode code 909 = .ok (.iconst 0, 1) := by decide +kernel
theorem dL_910 : decode code 910 = .ok (.ireturn, 1) := by decide +kernel
theorem dL_911 : decode code 911 = .ok (.aload_n 1, 1) := by decide +kernel
theorem dL_912 : decode code 912 = .ok (.aload_n 0, 1) := by decide +kernel
theorem dL_913 : decode code 913 = .ok (.iload_n 3, 1) := by decide +kernel
theorem dL_914 : decode code 914 = .ok (.iconst 1, 1) := by decide +kernel
theorem dL_915 : decode code 915 = .ok (.iadd, 1) := by decide +kernel
theorem dL_916 : decode code 916 = .ok (.iaload, 1) := by decide +kernel
theorem dL_917 : decode code 917 = .ok (.aload_n 0, 1) := by decide +kernel
theorem dL_918 : decode code 918 = .ok (.iload_n 3, 1) := by decide +kernel
theorem dL_919 : decode code 919 = .ok (.iconst 2, 1) := by decide +kernel
theorem dL_920 : decode code 920 = .ok (.iadd, 1) := by decide +kernel
theorem dL_921 : decode code 921 = .ok (.iaload, 1) := by decide +kernel
theorem dL_922 : decode code 922 = .ok (.aload_n 0, 1) := by decide +kernel
theorem dL_923 : decode code 923 = .ok (.iload_n 3, 1) := by decide +kernel
theorem dL_924 : decode code 924 = .ok (.iconst 3, 1) := by decide +kernel
theorem dL_925 : decode code 925 = .ok (.iadd, 1) := by decide +kernel
theorem dL_926 : decode code 926 = .ok (.iaload, 1) := by decide +kernel
theorem dL_927 : decode code 927 = .ok (.aload_n 0, 1) := by decide +kernel
theorem dL_928 : decode code 928 = .ok (.iload_n 3, 1) := by decide +kernel
theorem dL_929 : decode code 929 = .ok (.iconst 4, 1) := by decide +kernel
theorem dL_930 : decode code 930 = .ok (.iadd, 1) := by decide +kernel
theorem dL_931 : decode code 931 = .ok (.iaload, 1) := by decide +kernel
theorem dL_932 : decode code 932 = .ok (.aload_n 0, 1) := by decide +kernel
theorem dL_933 : decode code 933 = .ok (.iload_n 3, 1) := by decide +kernel
theorem dL_934 : decode code 934 = .ok (.iconst 5, 1) := by decide +kernel
theorem dL_935 : decode code 935 = .ok (.iadd, 1) := by decide +kernel
theorem dL_936 : decode code 936 = .ok (.iaload, 1) := by decide +kernel
theorem dL_937 : decode code 937 = .ok (.invokevirtual 114, 3) := by decide +kernel
theorem dL_940 : decode code 940 = .ok (.aload_n 2, 1) := by decide +kernel
theorem dL_941 : decode code 941 = .ok (.aload_n 0, 1) := by decide +kernel
theorem dL_942 : decode code 942 = .ok (.iload_n 3, 1) := by decide +kernel
theorem dL_943 : decode code 943 = .ok (.iconst 1, 1) := by decide +kernel
theorem dL_944 : decode code 944 = .ok (.iadd, 1) := by decide +kernel
theorem dL_945 : decode code 945 = .ok (.iaload, 1) := by decide +kernel
theorem dL_946 : decode code 946 = .ok (.aload_n 0, 1) := by decide +kernel
theorem dL_947 : decode code 947 = .ok (.iload_n 3, 1) := by decide +kernel
theorem dL_948 : decode code 948 = .ok (.iconst 2, 1) := by decide +kernel
theorem dL_949 : decode code 949 = .ok (.iadd, 1) := by decide +kernel
theorem dL_950 : decode code 950 = .ok (.iaload, 1) := by decide +kernel
theorem dL_951 : decode code 951 = .ok (.aload_n 0, 1) := by decide +kernel
theorem dL_952 : decode code 952 = .ok (.iload_n 3, 1) := by decide +kernel
theorem dL_953 : decode code 953 = .ok (.iconst 3, 1) := by decide +kernel
theorem dL_954 : decode code 954 = .ok (.iadd, 1) := by decide +kernel
theorem dL_955 : decode code 955 = .ok (.iaload, 1) := by decide +kernel
theorem dL_956 : decode code 956 = .ok (.aload_n 0, 1) := by decide +kernel
theorem dL_957 : decode code 957 = .ok (.iload_n 3, 1) := by decide +kernel
theorem dL_958 : decode code 958 = .ok (.iconst 4, 1) := by decide +kernel
theorem dL_959 : decode code 959 = .ok (.iadd, 1) := by decide +kernel
theorem dL_960 : decode code 960 = .ok (.iaload, 1) := by decide +kernel
theorem dL_961 : decode code 961 = .ok (.aload_n 0, 1) := by decide +kernel
theorem dL_962 : decode code 962 = .ok (.iload_n 3, 1) := by decide +kernel
theorem dL_963 : decode code 963 = .ok (.iconst 5, 1) := by decide +kernel
theorem dL_964 : decode code 964 = .ok (.iadd, 1) := by decide +kernel
theorem dL_965 : decode code 965 = .ok (.iaload, 1) := by decide +kernel
theorem dL_966 : decode code 966 = .ok (.invokevirtual 118, 3) := by decide +kernel
theorem dL_969 : decode code 969 = .ok (.if_icmp .eq 91, 3) := by decide +kernel
theorem dL_972 : decode code 972 = .ok (.iconst 0, 1) := by decide +kernel
theorem dL_973 : decode code 973 = .ok (.ireturn, 1) := by decide +kernel
theorem dL_974 : decode code 974 = .ok (.aload_n 1, 1) := by decide +kernel
theorem dL_975 : decode code 975 = .ok (.aload_n 0, 1) := by decide +kernel
theorem dL_976 : decode code 976 = .ok (.iload_n 3, 1) := by decide +kernel
theorem dL_977 : decode code 977 = .ok (.iconst 1, 1) := by decide +kernel
theorem dL_978 : decode code 978 = .ok (.iadd, 1) := by decide +kernel
theorem dL_979 : decode code 979 = .ok (.iaload, 1) := by decide +kernel
theorem dL_980 : decode code 980 = .ok (.aload_n 0, 1) := by decide +kernel
theorem dL_981 : decode code 981 = .ok (.iload_n 3, 1) := by decide +kernel
theorem dL_982 : decode code 982 = .ok (.iconst 2, 1) := by decide +kernel
theorem dL_983 : decode code 983 = .ok (.iadd, 1) := by decide +kernel
theorem dL_984 : decode code 984 = .ok (.iaload, 1) := by decide +kernel
theorem dL_985 : decode code 985 = .ok (.aload_n 0, 1) := by decide +kernel
theorem dL_986 : decode code 986 = .ok (.iload_n 3, 1) := by decide +kernel
theorem dL_987 : decode code 987 = .ok (.iconst 3, 1) := by decide +kernel
theorem dL_988 : decode code 988 = .ok (.iadd, 1) := by decide +kernel
theorem dL_989 : decode code 989 = .ok (.iaload, 1) := by decide +kernel
theorem dL_990 : decode code 990 = .ok (.aload_n 0, 1) := by decide +kernel
theorem dL_991 : decode code 991 = .ok (.iload_n 3, 1) := by decide +kernel
theorem dL_992 : decode code 992 = .ok (.iconst 4, 1) := by decide +kernel
theorem dL_993 : decode code 993 = .ok (.iadd, 1) := by decide +kernel
theorem dL_994 : decode code 994 = .ok (.iaload, 1) := by decide +kernel
theorem dL_995 : decode code 995 = .ok (.invokevirtual 119, 3) := by decide +kernel
theorem dL_998 : decode code 998 = .ok (.aload_n 2, 1) := by decide +kernel
theorem dL_999 : decode code 999 = .ok (.aload_n 0, 1) := by decide +kernel
theorem dL_1000 : decode code 1000 = .ok (.iload_n 3, 1) := by decide +kernel
theorem dL_1001 : decode code 1001 = .ok (.iconst 1, 1) := by decide +kernel
theorem dL_1002 : decode code 1002 = .ok (.iadd, 1) := by decide +kernel
theorem dL_1003 : decode code 1003 = .ok (.iaload, 1) := by decide +kernel
theorem dL_1004 : decode code 1004 = .ok (.aload_n 0, 1) := by decide +kernel
theorem dL_1005 : decode code 1005 = .ok (.iload_n 3, 1) := by decide +kernel
theorem dL_1006 : decode code 1006 = .ok (.iconst 2, 1) := by decide +kernel
theorem dL_1007 : decode code 1007 = .ok (.iadd, 1) := by decide +kernel
theorem dL_1008 : decode code 1008 = .ok (.iaload, 1) := by decide +kernel
theorem dL_1009 : decode code 1009 = .ok (.aload_n 0, 1) := by decide +kernel
theorem dL_1010 : decode code 1010 = .ok (.iload_n 3, 1) := by decide +kernel
theorem dL_1011 : decode code 1011 = .ok (.iconst 3, 1) := by decide +kernel
theorem dL_1012 : decode code 1012 = .ok (.iadd, 1) := by decide +kernel
theorem dL_1013 : decode code 1013 = .ok (.iaload, 1) := by decide +kernel
theorem dL_1014 : decode code 1014 = .ok (.aload_n 0, 1) := by decide +kernel
theorem dL_1015 : decode code 1015 = .ok (.iload_n 3, 1) := by decide +kernel
theorem dL_1016 : decode code 1016 = .ok (.iconst 4, 1) := by decide +kernel
theorem dL_1017 : decode code 1017 = .ok (.iadd, 1) := by decide +kernel
theorem dL_1018 : decode code 1018 = .ok (.iaload, 1) := by decide +kernel
theorem dL_1019 : decode code 1019 = .ok (.invokevirtual 123, 3) := by decide +kernel
theorem dL_1022 : decode code 1022 = .ok (.if_icmp .eq 38, 3) := by decide +kernel
theorem dL_1025 : decode code 1025 = .ok (.iconst 0, 1) := by decide +kernel
theorem dL_1026 : decode code 1026 = .ok (.ireturn, 1) := by decide +kernel
theorem dL_1027 : decode code 1027 = .ok (.aload_n 1, 1) := by decide +kernel
theorem dL_1028 : decode code 1028 = .ok (.aload_n 0, 1) := by decide +kernel
theorem dL_1029 : decode code 1029 = .ok (.iload_n 3, 1) := by decide +kernel
theorem dL_1030 : decode code 1030 = .ok (.iconst 1, 1) := by decide +kernel
theorem dL_1031 : decode code 1031 = .ok (.iadd, 1) := by decide +kernel
theorem dL_1032 : decode code 1032 = .ok (.iaload, 1) := by decide +kernel
theorem dL_1033 : decode code 1033 = .ok (.aload_n 0, 1) := by decide +kernel
theorem dL_1034 : decode code 1034 = .ok (.iload_n 3, 1) := by decide +kernel
theorem dL_1035 : decode code 1035 = .ok (.iconst 2, 1) := by decide +kernel
theorem dL_1036 : decode code 1036 = .ok (.iadd, 1) := by decide +kernel
theorem dL_1037 : decode code 1037 = .ok (.iaload, 1) := by decide +kernel
theorem dL_1038 : decode code 1038 = .ok (.invokevirtual 124, 3) := by decide +kernel
theorem dL_1041 : decode code 1041 = .ok (.aload_n 2, 1) := by decide +kernel
theorem dL_1042 : decode code 1042 = .ok (.aload_n 0, 1) := by decide +kernel
theorem dL_1043 : decode code 1043 = .ok (.iload_n 3, 1) := by decide +kernel
theorem dL_1044 : decode code 1044 = .ok (.iconst 1, 1) := by decide +kernel
theorem dL_1045 : decode code 1045 = .ok (.iadd, 1) := by decide +kernel
theorem dL_1046 : decode code 1046 = .ok (.iaload, 1) := by decide +kernel
theorem dL_1047 : decode code 1047 = .ok (.aload_n 0, 1) := by decide +kernel
theorem dL_1048 : decode code 1048 = .ok (.iload_n 3, 1) := by decide +kernel
theorem dL_1049 : decode code 1049 = .ok (.iconst 2, 1) := by decide +kernel
theorem dL_1050 : decode code 1050 = .ok (.iadd, 1) := by decide +kernel
theorem dL_1051 : decode code 1051 = .ok (.iaload, 1) := by decide +kernel
theorem dL_1052 : decode code 1052 = .ok (.invokevirtual 127, 3) := by decide +kernel
theorem dL_1055 : decode code 1055 = .ok (.if_icmp .eq 5, 3) := by decide +kernel
theorem dL_1058 : decode code 1058 = .ok (.iconst 0, 1) := by decide +kernel
theorem dL_1059 : decode code 1059 = .ok (.ireturn, 1) := by decide +kernel
theorem dL_1060 : decode code 1060 = .ok (.iinc 3 6, 3) := by decide +kernel
theorem dL_1063 : decode code 1063 = .ok (.goto (-1045), 3) := by decide +kernel
theorem dL_1066 : decode code 1066 = .ok (.iconst 1, 1) := by decide +kernel
theorem dL_1067 : decode code 1067 = .ok (.ireturn, 1) := by decide +kernel
