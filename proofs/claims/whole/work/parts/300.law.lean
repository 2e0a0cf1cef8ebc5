/-! THE CLAIM OUT OF ONE WALK OF THE LAW'S BODY. Your part is whole_start (and what it stands on); all else here is the same for every law, but numbers. -/
def R_law : String := "BronzeKingLaw"
def lw_P (b : Addr) (xs : List Int32) (args : Array Value) (s : State) : Prop := args = #[.ref b] ∧ s.IntsAt b xs ∧ xs.length ≤ 3072 ∧ (Jvm.Cond.and given_1 narrow_1).before args s = true
def lw_Q (_ : Array Value) (s : State) (o : Outcome) (t : State) : Prop := o = .returned (some (.int 1)) ∧ Framed s o t [] 600000 7302250
def lw_Z (below : List Frame) (a : Array Value) (s : State) : State → Prop := fun t => ∃ o, t.status = .running ∧ Ended t below o ∧ lw_Q a s o t
/-- the law's own end, with 1 on the stack, nothing written that was there before, its room as the claim has it -/
theorem lw_ret {p : Program} {l : Launch} {e : Env} {s : State} {m : MethodId} {below : List Frame} {meth : Method} {c : Code} {b : Nat} (hx : p.tables.exec = Jvm.exec) (hb : c.code = code) (hr : meth.sig.returnType = ret) (hlocks : meth.locks = false) {pc : Nat} {H : Heap} {ls : Array Slot} (hdg : decode code pc = .ok (.ireturn, 1)) : W p l e room_1 s m #[Value.ref b] below meth c H [] 600000 7302250 (lw_Z below #[Value.ref b] s) (F0 m pc ls [.int 1]) := by
  intro T hT X
  obtain ⟨fs, hret, hrun, hended, hW, hframe⟩ := X.leave (v := some (.int 1)) (hlocks := hlocks) (fun h => by rw [hr] at h; cases h)
  have hmeth' : T.vm.method? m = some meth := X.method'
  refine ⟨T.setFrames fs, ?_, .returned (some (.int 1)), hrun, hended, rfl, ⟨_, rfl⟩, hW, hframe⟩
  jvm_step X.here [X.here.top, hx, hb, hdg, hmeth', hr, ret, narrow_b1]
  (try refine ⟨rfl, ?_⟩); (try refine ⟨rfl, ?_⟩)
  first | (intro acts; rw [hret _ acts rfl rfl rfl]) | rw [hret _ _ rfl rfl rfl]
  exact Steps.refl _
/-- what holds at the law's entry: the machine, the code, the tables' words (any of lw_tbl by 'hts w (by decide +kernel)'), the script of L ints xs at the cell b, what the Statement gives of the start (any of its parts by flat_of_before) -/
def lw_At (p : Program) (s : State) (m : MethodId) (meth : Method) (c : Code) (b L : Nat) (xs : Nat → Int32) : Prop :=
  p.tables.exec = Jvm.exec ∧ c.code = code ∧ meth.sig.returnType = ret ∧ c.maxLocals = 4 ∧ s.vm.findClass R_law = some m.cls ∧ (∀ w ∈ lw_tbl, w.before #[Value.ref b] s = true) ∧ va_X b L xs s s.heap ∧ b < s.heap.size ∧ meth.locks = false ∧ (Jvm.Cond.and given_1 narrow_1).before #[Value.ref b] s = true
theorem dL_law_0 : decode code 0 = .ok (.new 7, 3) := by decide +kernel
theorem dL_law_3 : decode code 3 = .ok (.dup, 1) := by decide +kernel
theorem dL_law_4 : decode code 4 = .ok (.invokespecial 9, 3) := by decide +kernel
theorem dL_law_7 : decode code 7 = .ok (.astore_n 1, 1) := by decide +kernel
theorem dL_law_8 : decode code 8 = .ok (.new 10, 3) := by decide +kernel
theorem dL_law_11 : decode code 11 = .ok (.dup, 1) := by decide +kernel
theorem dL_law_12 : decode code 12 = .ok (.invokespecial 12, 3) := by decide +kernel
theorem dL_law_15 : decode code 15 = .ok (.astore_n 2, 1) := by decide +kernel
theorem dL_law_16 : decode code 16 = .ok (.iconst 0, 1) := by decide +kernel
theorem dL_law_17 : decode code 17 = .ok (.istore_n 3, 1) := by decide +kernel
theorem dL_law_18 : decode code 18 = .ok (.iload_n 3, 1) := by decide +kernel
theorem dL_law_19 : decode code 19 = .ok (.aload_n 0, 1) := by decide +kernel
theorem dL_law_20 : decode code 20 = .ok (.arraylength, 1) := by decide +kernel
theorem dL_law_21 : decode code 21 = .ok (.bipush 6, 2) := by decide +kernel
theorem dL_law_23 : decode code 23 = .ok (.isub, 1) := by decide +kernel
theorem dL_law_24 : decode code 24 = .ok (.if_icmp .gt 956, 3) := by decide +kernel
theorem dL_law_27 : decode code 27 = .ok (.aload_n 0, 1) := by decide +kernel
theorem dL_law_28 : decode code 28 = .ok (.iload_n 3, 1) := by decide +kernel
theorem dL_law_29 : decode code 29 = .ok (.iaload, 1) := by decide +kernel
theorem dL_law_30 : decode code 30 = .ok (.bipush 31, 2) := by decide +kernel
theorem dL_law_32 : decode code 32 = .ok (.iand, 1) := by decide +kernel
theorem dL_law_33 : decode code 33 = .ok (.tableswitch 941 0 27 #[127, 160, 203, 266, 289, 312, 335, 358, 391, 434, 467, 500, 523, 546, 559, 582, 615, 648, 691, 724, 757, 790, 813, 836, 859, 872, 885, 918], 127) := by decide +kernel
theorem dL_law_160 : decode code 160 = .ok (.aload_n 1, 1) := by decide +kernel
theorem dL_law_161 : decode code 161 = .ok (.aload_n 0, 1) := by decide +kernel
theorem dL_law_162 : decode code 162 = .ok (.iload_n 3, 1) := by decide +kernel
theorem dL_law_163 : decode code 163 = .ok (.iconst 1, 1) := by decide +kernel
theorem dL_law_164 : decode code 164 = .ok (.iadd, 1) := by decide +kernel
theorem dL_law_165 : decode code 165 = .ok (.iaload, 1) := by decide +kernel
theorem dL_law_166 : decode code 166 = .ok (.aload_n 0, 1) := by decide +kernel
theorem dL_law_167 : decode code 167 = .ok (.iload_n 3, 1) := by decide +kernel
theorem dL_law_168 : decode code 168 = .ok (.iconst 2, 1) := by decide +kernel
theorem dL_law_169 : decode code 169 = .ok (.iadd, 1) := by decide +kernel
theorem dL_law_170 : decode code 170 = .ok (.iaload, 1) := by decide +kernel
theorem dL_law_171 : decode code 171 = .ok (.invokevirtual 13, 3) := by decide +kernel
theorem dL_law_174 : decode code 174 = .ok (.aload_n 2, 1) := by decide +kernel
theorem dL_law_175 : decode code 175 = .ok (.aload_n 0, 1) := by decide +kernel
theorem dL_law_176 : decode code 176 = .ok (.iload_n 3, 1) := by decide +kernel
theorem dL_law_177 : decode code 177 = .ok (.iconst 1, 1) := by decide +kernel
theorem dL_law_178 : decode code 178 = .ok (.iadd, 1) := by decide +kernel
theorem dL_law_179 : decode code 179 = .ok (.iaload, 1) := by decide +kernel
theorem dL_law_180 : decode code 180 = .ok (.aload_n 0, 1) := by decide +kernel
theorem dL_law_181 : decode code 181 = .ok (.iload_n 3, 1) := by decide +kernel
theorem dL_law_182 : decode code 182 = .ok (.iconst 2, 1) := by decide +kernel
theorem dL_law_183 : decode code 183 = .ok (.iadd, 1) := by decide +kernel
theorem dL_law_184 : decode code 184 = .ok (.iaload, 1) := by decide +kernel
theorem dL_law_185 : decode code 185 = .ok (.invokevirtual 17, 3) := by decide +kernel
theorem dL_law_188 : decode code 188 = .ok (.if_icmp .eq 786, 3) := by decide +kernel
theorem dL_law_191 : decode code 191 = .ok (.iconst 0, 1) := by decide +kernel
theorem dL_law_192 : decode code 192 = .ok (.ireturn, 1) := by decide +kernel
theorem dL_law_193 : decode code 193 = .ok (.aload_n 1, 1) := by decide +kernel
theorem dL_law_194 : decode code 194 = .ok (.aload_n 0, 1) := by decide +kernel
theorem dL_law_195 : decode code 195 = .ok (.iload_n 3, 1) := by decide +kernel
theorem dL_law_196 : decode code 196 = .ok (.iconst 1, 1) := by decide +kernel
theorem dL_law_197 : decode code 197 = .ok (.iadd, 1) := by decide +kernel
theorem dL_law_198 : decode code 198 = .ok (.iaload, 1) := by decide +kernel
theorem dL_law_199 : decode code 199 = .ok (.aload_n 0, 1) := by decide +kernel
theorem dL_law_200 : decode code 200 = .ok (.iload_n 3, 1) := by decide +kernel
theorem dL_law_201 : decode code 201 = .ok (.iconst 2, 1) := by decide +kernel
theorem dL_law_202 : decode code 202 = .ok (.iadd, 1) := by decide +kernel
theorem dL_law_203 : decode code 203 = .ok (.iaload, 1) := by decide +kernel
theorem dL_law_204 : decode code 204 = .ok (.aload_n 0, 1) := by decide +kernel
theorem dL_law_205 : decode code 205 = .ok (.iload_n 3, 1) := by decide +kernel
theorem dL_law_206 : decode code 206 = .ok (.iconst 3, 1) := by decide +kernel
theorem dL_law_207 : decode code 207 = .ok (.iadd, 1) := by decide +kernel
theorem dL_law_208 : decode code 208 = .ok (.iaload, 1) := by decide +kernel
theorem dL_law_209 : decode code 209 = .ok (.invokevirtual 18, 3) := by decide +kernel
theorem dL_law_212 : decode code 212 = .ok (.aload_n 2, 1) := by decide +kernel
theorem dL_law_213 : decode code 213 = .ok (.aload_n 0, 1) := by decide +kernel
theorem dL_law_214 : decode code 214 = .ok (.iload_n 3, 1) := by decide +kernel
theorem dL_law_215 : decode code 215 = .ok (.iconst 1, 1) := by decide +kernel
theorem dL_law_216 : decode code 216 = .ok (.iadd, 1) := by decide +kernel
theorem dL_law_217 : decode code 217 = .ok (.iaload, 1) := by decide +kernel
theorem dL_law_218 : decode code 218 = .ok (.aload_n 0, 1) := by decide +kernel
theorem dL_law_219 : decode code 219 = .ok (.iload_n 3, 1) := by decide +kernel
theorem dL_law_220 : decode code 220 = .ok (.iconst 2, 1) := by decide +kernel
theorem dL_law_221 : decode code 221 = .ok (.iadd, 1) := by decide +kernel
theorem dL_law_222 : decode code 222 = .ok (.iaload, 1) := by decide +kernel
theorem dL_law_223 : decode code 223 = .ok (.aload_n 0, 1) := by decide +kernel
theorem dL_law_224 : decode code 224 = .ok (.iload_n 3, 1) := by decide +kernel
theorem dL_law_225 : decode code 225 = .ok (.iconst 3, 1) := by decide +kernel
theorem dL_law_226 : decode code 226 = .ok (.iadd, 1) := by decide +kernel
theorem dL_law_227 : decode code 227 = .ok (.iaload, 1) := by decide +kernel
theorem dL_law_228 : decode code 228 = .ok (.invokevirtual 22, 3) := by decide +kernel
theorem dL_law_231 : decode code 231 = .ok (.if_icmp .eq 743, 3) := by decide +kernel
theorem dL_law_234 : decode code 234 = .ok (.iconst 0, 1) := by decide +kernel
theorem dL_law_235 : decode code 235 = .ok (.ireturn, 1) := by decide +kernel
theorem dL_law_236 : decode code 236 = .ok (.aload_n 1, 1) := by decide +kernel
theorem dL_law_237 : decode code 237 = .ok (.aload_n 0, 1) := by decide +kernel
theorem dL_law_238 : decode code 238 = .ok (.iload_n 3, 1) := by decide +kernel
theorem dL_law_239 : decode code 239 = .ok (.iconst 1, 1) := by decide +kernel
theorem dL_law_240 : decode code 240 = .ok (.iadd, 1) := by decide +kernel
theorem dL_law_241 : decode code 241 = .ok (.iaload, 1) := by decide +kernel
theorem dL_law_242 : decode code 242 = .ok (.aload_n 0, 1) := by decide +kernel
theorem dL_law_243 : decode code 243 = .ok (.iload_n 3, 1) := by decide +kernel
theorem dL_law_244 : decode code 244 = .ok (.iconst 2, 1) := by decide +kernel
theorem dL_law_245 : decode code 245 = .ok (.iadd, 1) := by decide +kernel
theorem dL_law_246 : decode code 246 = .ok (.iaload, 1) := by decide +kernel
theorem dL_law_247 : decode code 247 = .ok (.aload_n 0, 1) := by decide +kernel
theorem dL_law_248 : decode code 248 = .ok (.iload_n 3, 1) := by decide +kernel
theorem dL_law_249 : decode code 249 = .ok (.iconst 3, 1) := by decide +kernel
theorem dL_law_250 : decode code 250 = .ok (.iadd, 1) := by decide +kernel
theorem dL_law_251 : decode code 251 = .ok (.iaload, 1) := by decide +kernel
theorem dL_law_252 : decode code 252 = .ok (.aload_n 0, 1) := by decide +kernel
theorem dL_law_253 : decode code 253 = .ok (.iload_n 3, 1) := by decide +kernel
theorem dL_law_254 : decode code 254 = .ok (.iconst 4, 1) := by decide +kernel
theorem dL_law_255 : decode code 255 = .ok (.iadd, 1) := by decide +kernel
theorem dL_law_256 : decode code 256 = .ok (.iaload, 1) := by decide +kernel
theorem dL_law_257 : decode code 257 = .ok (.aload_n 0, 1) := by decide +kernel
theorem dL_law_258 : decode code 258 = .ok (.iload_n 3, 1) := by decide +kernel
theorem dL_law_259 : decode code 259 = .ok (.iconst 5, 1) := by decide +kernel
theorem dL_law_260 : decode code 260 = .ok (.iadd, 1) := by decide +kernel
theorem dL_law_261 : decode code 261 = .ok (.iaload, 1) := by decide +kernel
theorem dL_law_262 : decode code 262 = .ok (.invokevirtual 23, 3) := by decide +kernel
theorem dL_law_265 : decode code 265 = .ok (.aload_n 2, 1) := by decide +kernel
theorem dL_law_266 : decode code 266 = .ok (.aload_n 0, 1) := by decide +kernel
theorem dL_law_267 : decode code 267 = .ok (.iload_n 3, 1) := by decide +kernel
theorem dL_law_268 : decode code 268 = .ok (.iconst 1, 1) := by decide +kernel
theorem dL_law_269 : decode code 269 = .ok (.iadd, 1) := by decide +kernel
theorem dL_law_270 : decode code 270 = .ok (.iaload, 1) := by decide +kernel
theorem dL_law_271 : decode code 271 = .ok (.aload_n 0, 1) := by decide +kernel
theorem dL_law_272 : decode code 272 = .ok (.iload_n 3, 1) := by decide +kernel
theorem dL_law_273 : decode code 273 = .ok (.iconst 2, 1) := by decide +kernel
theorem dL_law_274 : decode code 274 = .ok (.iadd, 1) := by decide +kernel
theorem dL_law_275 : decode code 275 = .ok (.iaload, 1) := by decide +kernel
theorem dL_law_276 : decode code 276 = .ok (.aload_n 0, 1) := by decide +kernel
theorem dL_law_277 : decode code 277 = .ok (.iload_n 3, 1) := by decide +kernel
theorem dL_law_278 : decode code 278 = .ok (.iconst 3, 1) := by decide +kernel
theorem dL_law_279 : decode code 279 = .ok (.iadd, 1) := by decide +kernel
theorem dL_law_280 : decode code 280 = .ok (.iaload, 1) := by decide +kernel
theorem dL_law_281 : decode code 281 = .ok (.aload_n 0, 1) := by decide +kernel
theorem dL_law_282 : decode code 282 = .ok (.iload_n 3, 1) := by decide +kernel
theorem dL_law_283 : decode code 283 = .ok (.iconst 4, 1) := by decide +kernel
theorem dL_law_284 : decode code 284 = .ok (.iadd, 1) := by decide +kernel
theorem dL_law_285 : decode code 285 = .ok (.iaload, 1) := by decide +kernel
theorem dL_law_286 : decode code 286 = .ok (.aload_n 0, 1) := by decide +kernel
theorem dL_law_287 : decode code 287 = .ok (.iload_n 3, 1) := by decide +kernel
theorem dL_law_288 : decode code 288 = .ok (.iconst 5, 1) := by decide +kernel
theorem dL_law_289 : decode code 289 = .ok (.iadd, 1) := by decide +kernel
theorem dL_law_290 : decode code 290 = .ok (.iaload, 1) := by decide +kernel
theorem dL_law_291 : decode code 291 = .ok (.invokevirtual 27, 3) := by decide +kernel
theorem dL_law_294 : decode code 294 = .ok (.if_icmp .eq 680, 3) := by decide +kernel
theorem dL_law_297 : decode code 297 = .ok (.iconst 0, 1) := by decide +kernel
theorem dL_law_298 : decode code 298 = .ok (.ireturn, 1) := by decide +kernel
theorem dL_law_299 : decode code 299 = .ok (.aload_n 1, 1) := by decide +kernel
theorem dL_law_300 : decode code 300 = .ok (.aload_n 0, 1) := by decide +kernel
theorem dL_law_301 : decode code 301 = .ok (.iload_n 3, 1) := by decide +kernel
theorem dL_law_302 : decode code 302 = .ok (.iconst 1, 1) := by decide +kernel
theorem dL_law_303 : decode code 303 = .ok (.iadd, 1) := by decide +kernel
theorem dL_law_304 : decode code 304 = .ok (.iaload, 1) := by decide +kernel
theorem dL_law_305 : decode code 305 = .ok (.invokevirtual 28, 3) := by decide +kernel
theorem dL_law_308 : decode code 308 = .ok (.aload_n 2, 1) := by decide +kernel
theorem dL_law_309 : decode code 309 = .ok (.aload_n 0, 1) := by decide +kernel
theorem dL_law_310 : decode code 310 = .ok (.iload_n 3, 1) := by decide +kernel
theorem dL_law_311 : decode code 311 = .ok (.iconst 1, 1) := by decide +kernel
theorem dL_law_312 : decode code 312 = .ok (.iadd, 1) := by decide +kernel
theorem dL_law_313 : decode code 313 = .ok (.iaload, 1) := by decide +kernel
theorem dL_law_314 : decode code 314 = .ok (.invokevirtual 32, 3) := by decide +kernel
theorem dL_law_317 : decode code 317 = .ok (.if_icmp .eq 657, 3) := by decide +kernel
theorem dL_law_320 : decode code 320 = .ok (.iconst 0, 1) := by decide +kernel
theorem dL_law_321 : decode code 321 = .ok (.ireturn, 1) := by decide +kernel
theorem dL_law_322 : decode code 322 = .ok (.aload_n 1, 1) := by decide +kernel
theorem dL_law_323 : decode code 323 = .ok (.aload_n 0, 1) := by decide +kernel
theorem dL_law_324 : decode code 324 = .ok (.iload_n 3, 1) := by decide +kernel
theorem dL_law_325 : decode code 325 = .ok (.iconst 1, 1) := by decide +kernel
theorem dL_law_326 : decode code 326 = .ok (.iadd, 1) := by decide +kernel
theorem dL_law_327 : decode code 327 = .ok (.iaload, 1) := by decide +kernel
theorem dL_law_328 : decode code 328 = .ok (.invokevirtual 33, 3) := by decide +kernel
theorem dL_law_331 : decode code 331 = .ok (.aload_n 2, 1) := by decide +kernel
theorem dL_law_332 : decode code 332 = .ok (.aload_n 0, 1) := by decide +kernel
theorem dL_law_333 : decode code 333 = .ok (.iload_n 3, 1) := by decide +kernel
theorem dL_law_334 : decode code 334 = .ok (.iconst 1, 1) := by decide +kernel
theorem dL_law_335 : decode code 335 = .ok (.iadd, 1) := by decide +kernel
theorem dL_law_336 : decode code 336 = .ok (.iaload, 1) := by decide +kernel
theorem dL_law_337 : decode code 337 = .ok (.invokevirtual 36, 3) := by decide +kernel
theorem dL_law_340 : decode code 340 = .ok (.if_icmp .eq 634, 3) := by decide +kernel
theorem dL_law_343 : decode code 343 = .ok (.iconst 0, 1) := by decide +kernel
theorem dL_law_344 : decode code 344 = .ok (.ireturn, 1) := by decide +kernel
theorem dL_law_345 : decode code 345 = .ok (.aload_n 1, 1) := by decide +kernel
theorem dL_law_346 : decode code 346 = .ok (.aload_n 0, 1) := by decide +kernel
theorem dL_law_347 : decode code 347 = .ok (.iload_n 3, 1) := by decide +kernel
theorem dL_law_348 : decode code 348 = .ok (.iconst 1, 1) := by decide +kernel
theorem dL_law_349 : decode code 349 = .ok (.iadd, 1) := by decide +kernel
theorem dL_law_350 : decode code 350 = .ok (.iaload, 1) := by decide +kernel
theorem dL_law_351 : decode code 351 = .ok (.invokevirtual 37, 3) := by decide +kernel
theorem dL_law_354 : decode code 354 = .ok (.aload_n 2, 1) := by decide +kernel
theorem dL_law_355 : decode code 355 = .ok (.aload_n 0, 1) := by decide +kernel
theorem dL_law_356 : decode code 356 = .ok (.iload_n 3, 1) := by decide +kernel
theorem dL_law_357 : decode code 357 = .ok (.iconst 1, 1) := by decide +kernel
theorem dL_law_358 : decode code 358 = .ok (.iadd, 1) := by decide +kernel
theorem dL_law_359 : decode code 359 = .ok (.iaload, 1) := by decide +kernel
theorem dL_law_360 : decode code 360 = .ok (.invokevirtual 40, 3) := by decide +kernel
theorem dL_law_363 : decode code 363 = .ok (.if_icmp .eq 611, 3) := by decide +kernel
theorem dL_law_366 : decode code 366 = .ok (.iconst 0, 1) := by decide +kernel
theorem dL_law_367 : decode code 367 = .ok (.ireturn, 1) := by decide +kernel
theorem dL_law_368 : decode code 368 = .ok (.aload_n 1, 1) := by decide +kernel
theorem dL_law_369 : decode code 369 = .ok (.aload_n 0, 1) := by decide +kernel
theorem dL_law_370 : decode code 370 = .ok (.iload_n 3, 1) := by decide +kernel
theorem dL_law_371 : decode code 371 = .ok (.iconst 1, 1) := by decide +kernel
theorem dL_law_372 : decode code 372 = .ok (.iadd, 1) := by decide +kernel
theorem dL_law_373 : decode code 373 = .ok (.iaload, 1) := by decide +kernel
theorem dL_law_374 : decode code 374 = .ok (.invokevirtual 41, 3) := by decide +kernel
theorem dL_law_377 : decode code 377 = .ok (.aload_n 2, 1) := by decide +kernel
theorem dL_law_378 : decode code 378 = .ok (.aload_n 0, 1) := by decide +kernel
theorem dL_law_379 : decode code 379 = .ok (.iload_n 3, 1) := by decide +kernel
theorem dL_law_380 : decode code 380 = .ok (.iconst 1, 1) := by decide +kernel
theorem dL_law_381 : decode code 381 = .ok (.iadd, 1) := by decide +kernel
theorem dL_law_382 : decode code 382 = .ok (.iaload, 1) := by decide +kernel
theorem dL_law_383 : decode code 383 = .ok (.invokevirtual 44, 3) := by decide +kernel
theorem dL_law_386 : decode code 386 = .ok (.if_icmp .eq 588, 3) := by decide +kernel
theorem dL_law_389 : decode code 389 = .ok (.iconst 0, 1) := by decide +kernel
theorem dL_law_390 : decode code 390 = .ok (.ireturn, 1) := by decide +kernel
theorem dL_law_391 : decode code 391 = .ok (.aload_n 1, 1) := by decide +kernel
theorem dL_law_392 : decode code 392 = .ok (.aload_n 0, 1) := by decide +kernel
theorem dL_law_393 : decode code 393 = .ok (.iload_n 3, 1) := by decide +kernel
theorem dL_law_394 : decode code 394 = .ok (.iconst 1, 1) := by decide +kernel
theorem dL_law_395 : decode code 395 = .ok (.iadd, 1) := by decide +kernel
theorem dL_law_396 : decode code 396 = .ok (.iaload, 1) := by decide +kernel
theorem dL_law_397 : decode code 397 = .ok (.aload_n 0, 1) := by decide +kernel
theorem dL_law_398 : decode code 398 = .ok (.iload_n 3, 1) := by decide +kernel
theorem dL_law_399 : decode code 399 = .ok (.iconst 2, 1) := by decide +kernel
theorem dL_law_400 : decode code 400 = .ok (.iadd, 1) := by decide +kernel
theorem dL_law_401 : decode code 401 = .ok (.iaload, 1) := by decide +kernel
theorem dL_law_402 : decode code 402 = .ok (.invokevirtual 45, 3) := by decide +kernel
theorem dL_law_405 : decode code 405 = .ok (.aload_n 2, 1) := by decide +kernel
theorem dL_law_406 : decode code 406 = .ok (.aload_n 0, 1) := by decide +kernel
theorem dL_law_407 : decode code 407 = .ok (.iload_n 3, 1) := by decide +kernel
theorem dL_law_408 : decode code 408 = .ok (.iconst 1, 1) := by decide +kernel
theorem dL_law_409 : decode code 409 = .ok (.iadd, 1) := by decide +kernel
theorem dL_law_410 : decode code 410 = .ok (.iaload, 1) := by decide +kernel
theorem dL_law_411 : decode code 411 = .ok (.aload_n 0, 1) := by decide +kernel
theorem dL_law_412 : decode code 412 = .ok (.iload_n 3, 1) := by decide +kernel
theorem dL_law_413 : decode code 413 = .ok (.iconst 2, 1) := by decide +kernel
theorem dL_law_414 : decode code 414 = .ok (.iadd, 1) := by decide +kernel
theorem dL_law_415 : decode code 415 = .ok (.iaload, 1) := by decide +kernel
theorem dL_law_416 : decode code 416 = .ok (.invokevirtual 49, 3) := by decide +kernel
theorem dL_law_419 : decode code 419 = .ok (.if_icmp .eq 555, 3) := by decide +kernel
theorem dL_law_422 : decode code 422 = .ok (.iconst 0, 1) := by decide +kernel
theorem dL_law_423 : decode code 423 = .ok (.ireturn, 1) := by decide +kernel
theorem dL_law_424 : decode code 424 = .ok (.aload_n 1, 1) := by decide +kernel
theorem dL_law_425 : decode code 425 = .ok (.aload_n 0, 1) := by decide +kernel
theorem dL_law_426 : decode code 426 = .ok (.iload_n 3, 1) := by decide +kernel
theorem dL_law_427 : decode code 427 = .ok (.iconst 1, 1) := by decide +kernel
theorem dL_law_428 : decode code 428 = .ok (.iadd, 1) := by decide +kernel
theorem dL_law_429 : decode code 429 = .ok (.iaload, 1) := by decide +kernel
theorem dL_law_430 : decode code 430 = .ok (.aload_n 0, 1) := by decide +kernel
theorem dL_law_431 : decode code 431 = .ok (.iload_n 3, 1) := by decide +kernel
theorem dL_law_432 : decode code 432 = .ok (.iconst 2, 1) := by decide +kernel
theorem dL_law_433 : decode code 433 = .ok (.iadd, 1) := by decide +kernel
theorem dL_law_434 : decode code 434 = .ok (.iaload, 1) := by decide +kernel
theorem dL_law_435 : decode code 435 = .ok (.aload_n 0, 1) := by decide +kernel
theorem dL_law_436 : decode code 436 = .ok (.iload_n 3, 1) := by decide +kernel
theorem dL_law_437 : decode code 437 = .ok (.iconst 3, 1) := by decide +kernel
theorem dL_law_438 : decode code 438 = .ok (.iadd, 1) := by decide +kernel
theorem dL_law_439 : decode code 439 = .ok (.iaload, 1) := by decide +kernel
theorem dL_law_440 : decode code 440 = .ok (.invokevirtual 50, 3) := by decide +kernel
theorem dL_law_443 : decode code 443 = .ok (.aload_n 2, 1) := by decide +kernel
theorem dL_law_444 : decode code 444 = .ok (.aload_n 0, 1) := by decide +kernel
theorem dL_law_445 : decode code 445 = .ok (.iload_n 3, 1) := by decide +kernel
theorem dL_law_446 : decode code 446 = .ok (.iconst 1, 1) := by decide +kernel
theorem dL_law_447 : decode code 447 = .ok (.iadd, 1) := by decide +kernel
theorem dL_law_448 : decode code 448 = .ok (.iaload, 1) := by decide +kernel
theorem dL_law_449 : decode code 449 = .ok (.aload_n 0, 1) := by decide +kernel
theorem dL_law_450 : decode code 450 = .ok (.iload_n 3, 1) := by decide +kernel
theorem dL_law_451 : decode code 451 = .ok (.iconst 2, 1) := by decide +kernel
theorem dL_law_452 : decode code 452 = .ok (.iadd, 1) := by decide +kernel
theorem dL_law_453 : decode code 453 = .ok (.iaload, 1) := by decide +kernel
theorem dL_law_454 : decode code 454 = .ok (.aload_n 0, 1) := by decide +kernel
theorem dL_law_455 : decode code 455 = .ok (.iload_n 3, 1) := by decide +kernel
theorem dL_law_456 : decode code 456 = .ok (.iconst 3, 1) := by decide +kernel
theorem dL_law_457 : decode code 457 = .ok (.iadd, 1) := by decide +kernel
theorem dL_law_458 : decode code 458 = .ok (.iaload, 1) := by decide +kernel
theorem dL_law_459 : decode code 459 = .ok (.invokevirtual 54, 3) := by decide +kernel
theorem dL_law_462 : decode code 462 = .ok (.if_icmp .eq 512, 3) := by decide +kernel
theorem dL_law_465 : decode code 465 = .ok (.iconst 0, 1) := by decide +kernel
theorem dL_law_466 : decode code 466 = .ok (.ireturn, 1) := by decide +kernel
theorem dL_law_467 : decode code 467 = .ok (.aload_n 1, 1) := by decide +kernel
theorem dL_law_468 : decode code 468 = .ok (.aload_n 0, 1) := by decide +kernel
theorem dL_law_469 : decode code 469 = .ok (.iload_n 3, 1) := by decide +kernel
theorem dL_law_470 : decode code 470 = .ok (.iconst 1, 1) := by decide +kernel
theorem dL_law_471 : decode code 471 = .ok (.iadd, 1) := by decide +kernel
theorem dL_law_472 : decode code 472 = .ok (.iaload, 1) := by decide +kernel
theorem dL_law_473 : decode code 473 = .ok (.aload_n 0, 1) := by decide +kernel
theorem dL_law_474 : decode code 474 = .ok (.iload_n 3, 1) := by decide +kernel
theorem dL_law_475 : decode code 475 = .ok (.iconst 2, 1) := by decide +kernel
theorem dL_law_476 : decode code 476 = .ok (.iadd, 1) := by decide +kernel
theorem dL_law_477 : decode code 477 = .ok (.iaload, 1) := by decide +kernel
theorem dL_law_478 : decode code 478 = .ok (.invokevirtual 55, 3) := by decide +kernel
theorem dL_law_481 : decode code 481 = .ok (.aload_n 2, 1) := by decide +kernel
theorem dL_law_482 : decode code 482 = .ok (.aload_n 0, 1) := by decide +kernel
theorem dL_law_483 : decode code 483 = .ok (.iload_n 3, 1) := by decide +kernel
theorem dL_law_484 : decode code 484 = .ok (.iconst 1, 1) := by decide +kernel
theorem dL_law_485 : decode code 485 = .ok (.iadd, 1) := by decide +kernel
theorem dL_law_486 : decode code 486 = .ok (.iaload, 1) := by decide +kernel
theorem dL_law_487 : decode code 487 = .ok (.aload_n 0, 1) := by decide +kernel
theorem dL_law_488 : decode code 488 = .ok (.iload_n 3, 1) := by decide +kernel
theorem dL_law_489 : decode code 489 = .ok (.iconst 2, 1) := by decide +kernel
theorem dL_law_490 : decode code 490 = .ok (.iadd, 1) := by decide +kernel
theorem dL_law_491 : decode code 491 = .ok (.iaload, 1) := by decide +kernel
theorem dL_law_492 : decode code 492 = .ok (.invokevirtual 58, 3) := by decide +kernel
theorem dL_law_495 : decode code 495 = .ok (.if_icmp .eq 479, 3) := by decide +kernel
theorem dL_law_498 : decode code 498 = .ok (.iconst 0, 1) := by decide +kernel
theorem dL_law_499 : decode code 499 = .ok (.ireturn, 1) := by decide +kernel
theorem dL_law_500 : decode code 500 = .ok (.aload_n 1, 1) := by decide +kernel
theorem dL_law_501 : decode code 501 = .ok (.aload_n 0, 1) := by decide +kernel
theorem dL_law_502 : decode code 502 = .ok (.iload_n 3, 1) := by decide +kernel
theorem dL_law_503 : decode code 503 = .ok (.iconst 1, 1) := by decide +kernel
theorem dL_law_504 : decode code 504 = .ok (.iadd, 1) := by decide +kernel
theorem dL_law_505 : decode code 505 = .ok (.iaload, 1) := by decide +kernel
theorem dL_law_506 : decode code 506 = .ok (.aload_n 0, 1) := by decide +kernel
theorem dL_law_507 : decode code 507 = .ok (.iload_n 3, 1) := by decide +kernel
theorem dL_law_508 : decode code 508 = .ok (.iconst 2, 1) := by decide +kernel
theorem dL_law_509 : decode code 509 = .ok (.iadd, 1) := by decide +kernel
theorem dL_law_510 : decode code 510 = .ok (.iaload, 1) := by decide +kernel
theorem dL_law_511 : decode code 511 = .ok (.invokevirtual 59, 3) := by decide +kernel
theorem dL_law_514 : decode code 514 = .ok (.aload_n 2, 1) := by decide +kernel
theorem dL_law_515 : decode code 515 = .ok (.aload_n 0, 1) := by decide +kernel
theorem dL_law_516 : decode code 516 = .ok (.iload_n 3, 1) := by decide +kernel
theorem dL_law_517 : decode code 517 = .ok (.iconst 1, 1) := by decide +kernel
theorem dL_law_518 : decode code 518 = .ok (.iadd, 1) := by decide +kernel
theorem dL_law_519 : decode code 519 = .ok (.iaload, 1) := by decide +kernel
theorem dL_law_520 : decode code 520 = .ok (.aload_n 0, 1) := by decide +kernel
theorem dL_law_521 : decode code 521 = .ok (.iload_n 3, 1) := by decide +kernel
theorem dL_law_522 : decode code 522 = .ok (.iconst 2, 1) := by decide +kernel
theorem dL_law_523 : decode code 523 = .ok (.iadd, 1) := by decide +kernel
theorem dL_law_524 : decode code 524 = .ok (.iaload, 1) := by decide +kernel
theorem dL_law_525 : decode code 525 = .ok (.invokevirtual 62, 3) := by decide +kernel
theorem dL_law_528 : decode code 528 = .ok (.if_icmp .eq 446, 3) := by decide +kernel
theorem dL_law_531 : decode code 531 = .ok (.iconst 0, 1) := by decide +kernel
theorem dL_law_532 : decode code 532 = .ok (.ireturn, 1) := by decide +kernel
theorem dL_law_533 : decode code 533 = .ok (.aload_n 1, 1) := by decide +kernel
theorem dL_law_534 : decode code 534 = .ok (.aload_n 0, 1) := by decide +kernel
theorem dL_law_535 : decode code 535 = .ok (.iload_n 3, 1) := by decide +kernel
theorem dL_law_536 : decode code 536 = .ok (.iconst 1, 1) := by decide +kernel
theorem dL_law_537 : decode code 537 = .ok (.iadd, 1) := by decide +kernel
theorem dL_law_538 : decode code 538 = .ok (.iaload, 1) := by decide +kernel
theorem dL_law_539 : decode code 539 = .ok (.invokevirtual 63, 3) := by decide +kernel
theorem dL_law_542 : decode code 542 = .ok (.aload_n 2, 1) := by decide +kernel
theorem dL_law_543 : decode code 543 = .ok (.aload_n 0, 1) := by decide +kernel
theorem dL_law_544 : decode code 544 = .ok (.iload_n 3, 1) := by decide +kernel
theorem dL_law_545 : decode code 545 = .ok (.iconst 1, 1) := by decide +kernel
theorem dL_law_546 : decode code 546 = .ok (.iadd, 1) := by decide +kernel
theorem dL_law_547 : decode code 547 = .ok (.iaload, 1) := by decide +kernel
theorem dL_law_548 : decode code 548 = .ok (.invokevirtual 66, 3) := by decide +kernel
theorem dL_law_551 : decode code 551 = .ok (.if_icmp .eq 423, 3) := by decide +kernel
theorem dL_law_554 : decode code 554 = .ok (.iconst 0, 1) := by decide +kernel
theorem dL_law_555 : decode code 555 = .ok (.ireturn, 1) := by decide +kernel
theorem dL_law_556 : decode code 556 = .ok (.aload_n 1, 1) := by decide +kernel
theorem dL_law_557 : decode code 557 = .ok (.aload_n 0, 1) := by decide +kernel
theorem dL_law_558 : decode code 558 = .ok (.iload_n 3, 1) := by decide +kernel
theorem dL_law_559 : decode code 559 = .ok (.iconst 1, 1) := by decide +kernel
theorem dL_law_560 : decode code 560 = .ok (.iadd, 1) := by decide +kernel
theorem dL_law_561 : decode code 561 = .ok (.iaload, 1) := by decide +kernel
theorem dL_law_562 : decode code 562 = .ok (.invokevirtual 67, 3) := by decide +kernel
theorem dL_law_565 : decode code 565 = .ok (.aload_n 2, 1) := by decide +kernel
theorem dL_law_566 : decode code 566 = .ok (.aload_n 0, 1) := by decide +kernel
theorem dL_law_567 : decode code 567 = .ok (.iload_n 3, 1) := by decide +kernel
theorem dL_law_568 : decode code 568 = .ok (.iconst 1, 1) := by decide +kernel
theorem dL_law_569 : decode code 569 = .ok (.iadd, 1) := by decide +kernel
theorem dL_law_570 : decode code 570 = .ok (.iaload, 1) := by decide +kernel
theorem dL_law_571 : decode code 571 = .ok (.invokevirtual 70, 3) := by decide +kernel
theorem dL_law_574 : decode code 574 = .ok (.if_icmp .eq 400, 3) := by decide +kernel
theorem dL_law_577 : decode code 577 = .ok (.iconst 0, 1) := by decide +kernel
theorem dL_law_578 : decode code 578 = .ok (.ireturn, 1) := by decide +kernel
theorem dL_law_579 : decode code 579 = .ok (.aload_n 1, 1) := by decide +kernel
theorem dL_law_580 : decode code 580 = .ok (.invokevirtual 71, 3) := by decide +kernel
theorem dL_law_583 : decode code 583 = .ok (.aload_n 2, 1) := by decide +kernel
theorem dL_law_584 : decode code 584 = .ok (.invokevirtual 75, 3) := by decide +kernel
theorem dL_law_587 : decode code 587 = .ok (.if_icmp .eq 387, 3) := by decide +kernel
theorem dL_law_590 : decode code 590 = .ok (.iconst 0, 1) := by decide +kernel
theorem dL_law_591 : decode code 591 = .ok (.ireturn, 1) := by decide +kernel
theorem dL_law_592 : decode code 592 = .ok (.aload_n 1, 1) := by decide +kernel
theorem dL_law_593 : decode code 593 = .ok (.aload_n 0, 1) := by decide +kernel
theorem dL_law_594 : decode code 594 = .ok (.iload_n 3, 1) := by decide +kernel
theorem dL_law_595 : decode code 595 = .ok (.iconst 1, 1) := by decide +kernel
theorem dL_law_596 : decode code 596 = .ok (.iadd, 1) := by decide +kernel
theorem dL_law_597 : decode code 597 = .ok (.iaload, 1) := by decide +kernel
theorem dL_law_598 : decode code 598 = .ok (.invokevirtual 76, 3) := by decide +kernel
theorem dL_law_601 : decode code 601 = .ok (.aload_n 2, 1) := by decide +kernel
theorem dL_law_602 : decode code 602 = .ok (.aload_n 0, 1) := by decide +kernel
theorem dL_law_603 : decode code 603 = .ok (.iload_n 3, 1) := by decide +kernel
theorem dL_law_604 : decode code 604 = .ok (.iconst 1, 1) := by decide +kernel
theorem dL_law_605 : decode code 605 = .ok (.iadd, 1) := by decide +kernel
theorem dL_law_606 : decode code 606 = .ok (.iaload, 1) := by decide +kernel
theorem dL_law_607 : decode code 607 = .ok (.invokevirtual 79, 3) := by decide +kernel
theorem dL_law_610 : decode code 610 = .ok (.if_icmp .eq 364, 3) := by decide +kernel
theorem dL_law_613 : decode code 613 = .ok (.iconst 0, 1) := by decide +kernel
theorem dL_law_614 : decode code 614 = .ok (.ireturn, 1) := by decide +kernel
theorem dL_law_615 : decode code 615 = .ok (.aload_n 1, 1) := by decide +kernel
theorem dL_law_616 : decode code 616 = .ok (.aload_n 0, 1) := by decide +kernel
theorem dL_law_617 : decode code 617 = .ok (.iload_n 3, 1) := by decide +kernel
theorem dL_law_618 : decode code 618 = .ok (.iconst 1, 1) := by decide +kernel
theorem dL_law_619 : decode code 619 = .ok (.iadd, 1) := by decide +kernel
theorem dL_law_620 : decode code 620 = .ok (.iaload, 1) := by decide +kernel
theorem dL_law_621 : decode code 621 = .ok (.aload_n 0, 1) := by decide +kernel
theorem dL_law_622 : decode code 622 = .ok (.iload_n 3, 1) := by decide +kernel
theorem dL_law_623 : decode code 623 = .ok (.iconst 2, 1) := by decide +kernel
theorem dL_law_624 : decode code 624 = .ok (.iadd, 1) := by decide +kernel
theorem dL_law_625 : decode code 625 = .ok (.iaload, 1) := by decide +kernel
theorem dL_law_626 : decode code 626 = .ok (.invokevirtual 80, 3) := by decide +kernel
theorem dL_law_629 : decode code 629 = .ok (.aload_n 2, 1) := by decide +kernel
theorem dL_law_630 : decode code 630 = .ok (.aload_n 0, 1) := by decide +kernel
theorem dL_law_631 : decode code 631 = .ok (.iload_n 3, 1) := by decide +kernel
theorem dL_law_632 : decode code 632 = .ok (.iconst 1, 1) := by decide +kernel
theorem dL_law_633 : decode code 633 = .ok (.iadd, 1) := by decide +kernel
theorem dL_law_634 : decode code 634 = .ok (.iaload, 1) := by decide +kernel
theorem dL_law_635 : decode code 635 = .ok (.aload_n 0, 1) := by decide +kernel
theorem dL_law_636 : decode code 636 = .ok (.iload_n 3, 1) := by decide +kernel
theorem dL_law_637 : decode code 637 = .ok (.iconst 2, 1) := by decide +kernel
theorem dL_law_638 : decode code 638 = .ok (.iadd, 1) := by decide +kernel
theorem dL_law_639 : decode code 639 = .ok (.iaload, 1) := by decide +kernel
theorem dL_law_640 : decode code 640 = .ok (.invokevirtual 83, 3) := by decide +kernel
theorem dL_law_643 : decode code 643 = .ok (.if_icmp .eq 331, 3) := by decide +kernel
theorem dL_law_646 : decode code 646 = .ok (.iconst 0, 1) := by decide +kernel
theorem dL_law_647 : decode code 647 = .ok (.ireturn, 1) := by decide +kernel
theorem dL_law_648 : decode code 648 = .ok (.aload_n 1, 1) := by decide +kernel
theorem dL_law_649 : decode code 649 = .ok (.aload_n 0, 1) := by decide +kernel
theorem dL_law_650 : decode code 650 = .ok (.iload_n 3, 1) := by decide +kernel
theorem dL_law_651 : decode code 651 = .ok (.iconst 1, 1) := by decide +kernel
theorem dL_law_652 : decode code 652 = .ok (.iadd, 1) := by decide +kernel
theorem dL_law_653 : decode code 653 = .ok (.iaload, 1) := by decide +kernel
theorem dL_law_654 : decode code 654 = .ok (.aload_n 0, 1) := by decide +kernel
theorem dL_law_655 : decode code 655 = .ok (.iload_n 3, 1) := by decide +kernel
theorem dL_law_656 : decode code 656 = .ok (.iconst 2, 1) := by decide +kernel
theorem dL_law_657 : decode code 657 = .ok (.iadd, 1) := by decide +kernel
theorem dL_law_658 : decode code 658 = .ok (.iaload, 1) := by decide +kernel
theorem dL_law_659 : decode code 659 = .ok (.invokevirtual 84, 3) := by decide +kernel
theorem dL_law_662 : decode code 662 = .ok (.aload_n 2, 1) := by decide +kernel
theorem dL_law_663 : decode code 663 = .ok (.aload_n 0, 1) := by decide +kernel
theorem dL_law_664 : decode code 664 = .ok (.iload_n 3, 1) := by decide +kernel
theorem dL_law_665 : decode code 665 = .ok (.iconst 1, 1) := by decide +kernel
theorem dL_law_666 : decode code 666 = .ok (.iadd, 1) := by decide +kernel
theorem dL_law_667 : decode code 667 = .ok (.iaload, 1) := by decide +kernel
theorem dL_law_668 : decode code 668 = .ok (.aload_n 0, 1) := by decide +kernel
theorem dL_law_669 : decode code 669 = .ok (.iload_n 3, 1) := by decide +kernel
theorem dL_law_670 : decode code 670 = .ok (.iconst 2, 1) := by decide +kernel
theorem dL_law_671 : decode code 671 = .ok (.iadd, 1) := by decide +kernel
theorem dL_law_672 : decode code 672 = .ok (.iaload, 1) := by decide +kernel
theorem dL_law_673 : decode code 673 = .ok (.invokevirtual 87, 3) := by decide +kernel
theorem dL_law_676 : decode code 676 = .ok (.if_icmp .eq 298, 3) := by decide +kernel
theorem dL_law_679 : decode code 679 = .ok (.iconst 0, 1) := by decide +kernel
theorem dL_law_680 : decode code 680 = .ok (.ireturn, 1) := by decide +kernel
theorem dL_law_681 : decode code 681 = .ok (.aload_n 1, 1) := by decide +kernel
theorem dL_law_682 : decode code 682 = .ok (.aload_n 0, 1) := by decide +kernel
theorem dL_law_683 : decode code 683 = .ok (.iload_n 3, 1) := by decide +kernel
theorem dL_law_684 : decode code 684 = .ok (.iconst 1, 1) := by decide +kernel
theorem dL_law_685 : decode code 685 = .ok (.iadd, 1) := by decide +kernel
theorem dL_law_686 : decode code 686 = .ok (.iaload, 1) := by decide +kernel
theorem dL_law_687 : decode code 687 = .ok (.aload_n 0, 1) := by decide +kernel
theorem dL_law_688 : decode code 688 = .ok (.iload_n 3, 1) := by decide +kernel
theorem dL_law_689 : decode code 689 = .ok (.iconst 2, 1) := by decide +kernel
theorem dL_law_690 : decode code 690 = .ok (.iadd, 1) := by decide +kernel
theorem dL_law_691 : decode code 691 = .ok (.iaload, 1) := by decide +kernel
theorem dL_law_692 : decode code 692 = .ok (.aload_n 0, 1) := by decide +kernel
theorem dL_law_693 : decode code 693 = .ok (.iload_n 3, 1) := by decide +kernel
theorem dL_law_694 : decode code 694 = .ok (.iconst 3, 1) := by decide +kernel
theorem dL_law_695 : decode code 695 = .ok (.iadd, 1) := by decide +kernel
theorem dL_law_696 : decode code 696 = .ok (.iaload, 1) := by decide +kernel
theorem dL_law_697 : decode code 697 = .ok (.invokevirtual 88, 3) := by decide +kernel
theorem dL_law_700 : decode code 700 = .ok (.aload_n 2, 1) := by decide +kernel
theorem dL_law_701 : decode code 701 = .ok (.aload_n 0, 1) := by decide +kernel
theorem dL_law_702 : decode code 702 = .ok (.iload_n 3, 1) := by decide +kernel
theorem dL_law_703 : decode code 703 = .ok (.iconst 1, 1) := by decide +kernel
theorem dL_law_704 : decode code 704 = .ok (.iadd, 1) := by decide +kernel
theorem dL_law_705 : decode code 705 = .ok (.iaload, 1) := by decide +kernel
theorem dL_law_706 : decode code 706 = .ok (.aload_n 0, 1) := by decide +kernel
theorem dL_law_707 : decode code 707 = .ok (.iload_n 3, 1) := by decide +kernel
theorem dL_law_708 : decode code 708 = .ok (.iconst 2, 1) := by decide +kernel
theorem dL_law_709 : decode code 709 = .ok (.iadd, 1) := by decide +kernel
theorem dL_law_710 : decode code 710 = .ok (.iaload, 1) := by decide +kernel
theorem dL_law_711 : decode code 711 = .ok (.aload_n 0, 1) := by decide +kernel
theorem dL_law_712 : decode code 712 = .ok (.iload_n 3, 1) := by decide +kernel
theorem dL_law_713 : decode code 713 = .ok (.iconst 3, 1) := by decide +kernel
theorem dL_law_714 : decode code 714 = .ok (.iadd, 1) := by decide +kernel
theorem dL_law_715 : decode code 715 = .ok (.iaload, 1) := by decide +kernel
theorem dL_law_716 : decode code 716 = .ok (.invokevirtual 91, 3) := by decide +kernel
theorem dL_law_719 : decode code 719 = .ok (.if_icmp .eq 255, 3) := by decide +kernel
theorem dL_law_722 : decode code 722 = .ok (.iconst 0, 1) := by decide +kernel
theorem dL_law_723 : decode code 723 = .ok (.ireturn, 1) := by decide +kernel
theorem dL_law_724 : decode code 724 = .ok (.aload_n 1, 1) := by decide +kernel
theorem dL_law_725 : decode code 725 = .ok (.aload_n 0, 1) := by decide +kernel
theorem dL_law_726 : decode code 726 = .ok (.iload_n 3, 1) := by decide +kernel
theorem dL_law_727 : decode code 727 = .ok (.iconst 1, 1) := by decide +kernel
theorem dL_law_728 : decode code 728 = .ok (.iadd, 1) := by decide +kernel
theorem dL_law_729 : decode code 729 = .ok (.iaload, 1) := by decide +kernel
theorem dL_law_730 : decode code 730 = .ok (.aload_n 0, 1) := by decide +kernel
theorem dL_law_731 : decode code 731 = .ok (.iload_n 3, 1) := by decide +kernel
theorem dL_law_732 : decode code 732 = .ok (.iconst 2, 1) := by decide +kernel
theorem dL_law_733 : decode code 733 = .ok (.iadd, 1) := by decide +kernel
theorem dL_law_734 : decode code 734 = .ok (.iaload, 1) := by decide +kernel
theorem dL_law_735 : decode code 735 = .ok (.invokevirtual 92, 3) := by decide +kernel
theorem dL_law_738 : decode code 738 = .ok (.aload_n 2, 1) := by decide +kernel
theorem dL_law_739 : decode code 739 = .ok (.aload_n 0, 1) := by decide +kernel
theorem dL_law_740 : decode code 740 = .ok (.iload_n 3, 1) := by decide +kernel
theorem dL_law_741 : decode code 741 = .ok (.iconst 1, 1) := by decide +kernel
theorem dL_law_742 : decode code 742 = .ok (.iadd, 1) := by decide +kernel
theorem dL_law_743 : decode code 743 = .ok (.iaload, 1) := by decide +kernel
theorem dL_law_744 : decode code 744 = .ok (.aload_n 0, 1) := by decide +kernel
theorem dL_law_745 : decode code 745 = .ok (.iload_n 3, 1) := by decide +kernel
theorem dL_law_746 : decode code 746 = .ok (.iconst 2, 1) := by decide +kernel
theorem dL_law_747 : decode code 747 = .ok (.iadd, 1) := by decide +kernel
theorem dL_law_748 : decode code 748 = .ok (.iaload, 1) := by decide +kernel
theorem dL_law_749 : decode code 749 = .ok (.invokevirtual 95, 3) := by decide +kernel
theorem dL_law_752 : decode code 752 = .ok (.if_icmp .eq 222, 3) := by decide +kernel
theorem dL_law_755 : decode code 755 = .ok (.iconst 0, 1) := by decide +kernel
theorem dL_law_756 : decode code 756 = .ok (.ireturn, 1) := by decide +kernel
theorem dL_law_757 : decode code 757 = .ok (.aload_n 1, 1) := by decide +kernel
theorem dL_law_758 : decode code 758 = .ok (.aload_n 0, 1) := by decide +kernel
theorem dL_law_759 : decode code 759 = .ok (.iload_n 3, 1) := by decide +kernel
theorem dL_law_760 : decode code 760 = .ok (.iconst 1, 1) := by decide +kernel
theorem dL_law_761 : decode code 761 = .ok (.iadd, 1) := by decide +kernel
theorem dL_law_762 : decode code 762 = .ok (.iaload, 1) := by decide +kernel
theorem dL_law_763 : decode code 763 = .ok (.aload_n 0, 1) := by decide +kernel
theorem dL_law_764 : decode code 764 = .ok (.iload_n 3, 1) := by decide +kernel
theorem dL_law_765 : decode code 765 = .ok (.iconst 2, 1) := by decide +kernel
theorem dL_law_766 : decode code 766 = .ok (.iadd, 1) := by decide +kernel
theorem dL_law_767 : decode code 767 = .ok (.iaload, 1) := by decide +kernel
theorem dL_law_768 : decode code 768 = .ok (.invokevirtual 96, 3) := by decide +kernel
theorem dL_law_771 : decode code 771 = .ok (.aload_n 2, 1) := by decide +kernel
theorem dL_law_772 : decode code 772 = .ok (.aload_n 0, 1) := by decide +kernel
theorem dL_law_773 : decode code 773 = .ok (.iload_n 3, 1) := by decide +kernel
theorem dL_law_774 : decode code 774 = .ok (.iconst 1, 1) := by decide +kernel
theorem dL_law_775 : decode code 775 = .ok (.iadd, 1) := by decide +kernel
theorem dL_law_776 : decode code 776 = .ok (.iaload, 1) := by decide +kernel
theorem dL_law_777 : decode code 777 = .ok (.aload_n 0, 1) := by decide +kernel
theorem dL_law_778 : decode code 778 = .ok (.iload_n 3, 1) := by decide +kernel
theorem dL_law_779 : decode code 779 = .ok (.iconst 2, 1) := by decide +kernel
theorem dL_law_780 : decode code 780 = .ok (.iadd, 1) := by decide +kernel
theorem dL_law_781 : decode code 781 = .ok (.iaload, 1) := by decide +kernel
theorem dL_law_782 : decode code 782 = .ok (.invokevirtual 99, 3) := by decide +kernel
theorem dL_law_785 : decode code 785 = .ok (.if_icmp .eq 189, 3) := by decide +kernel
theorem dL_law_788 : decode code 788 = .ok (.iconst 0, 1) := by decide +kernel
theorem dL_law_789 : decode code 789 = .ok (.ireturn, 1) := by decide +kernel
theorem dL_law_790 : decode code 790 = .ok (.aload_n 1, 1) := by decide +kernel
theorem dL_law_791 : decode code 791 = .ok (.aload_n 0, 1) := by decide +kernel
theorem dL_law_792 : decode code 792 = .ok (.iload_n 3, 1) := by decide +kernel
theorem dL_law_793 : decode code 793 = .ok (.iconst 1, 1) := by decide +kernel
theorem dL_law_794 : decode code 794 = .ok (.iadd, 1) := by decide +kernel
theorem dL_law_795 : decode code 795 = .ok (.iaload, 1) := by decide +kernel
theorem dL_law_796 : decode code 796 = .ok (.aload_n 0, 1) := by decide +kernel
theorem dL_law_797 : decode code 797 = .ok (.iload_n 3, 1) := by decide +kernel
theorem dL_law_798 : decode code 798 = .ok (.iconst 2, 1) := by decide +kernel
theorem dL_law_799 : decode code 799 = .ok (.iadd, 1) := by decide +kernel
theorem dL_law_800 : decode code 800 = .ok (.iaload, 1) := by decide +kernel
theorem dL_law_801 : decode code 801 = .ok (.invokevirtual 100, 3) := by decide +kernel
theorem dL_law_804 : decode code 804 = .ok (.aload_n 2, 1) := by decide +kernel
theorem dL_law_805 : decode code 805 = .ok (.aload_n 0, 1) := by decide +kernel
theorem dL_law_806 : decode code 806 = .ok (.iload_n 3, 1) := by decide +kernel
theorem dL_law_807 : decode code 807 = .ok (.iconst 1, 1) := by decide +kernel
theorem dL_law_808 : decode code 808 = .ok (.iadd, 1) := by decide +kernel
theorem dL_law_809 : decode code 809 = .ok (.iaload, 1) := by decide +kernel
theorem dL_law_810 : decode code 810 = .ok (.aload_n 0, 1) := by decide +kernel
theorem dL_law_811 : decode code 811 = .ok (.iload_n 3, 1) := by decide +kernel
theorem dL_law_812 : decode code 812 = .ok (.iconst 2, 1) := by decide +kernel
theorem dL_law_813 : decode code 813 = .ok (.iadd, 1) := by decide +kernel
theorem dL_law_814 : decode code 814 = .ok (.iaload, 1) := by decide +kernel
theorem dL_law_815 : decode code 815 = .ok (.invokevirtual 103, 3) := by decide +kernel
theorem dL_law_818 : decode code 818 = .ok (.if_icmp .eq 156, 3) := by decide +kernel
theorem dL_law_821 : decode code 821 = .ok (.iconst 0, 1) := by decide +kernel
theorem dL_law_822 : decode code 822 = .ok (.ireturn, 1) := by decide +kernel
theorem dL_law_823 : decode code 823 = .ok (.aload_n 1, 1) := by decide +kernel
theorem dL_law_824 : decode code 824 = .ok (.aload_n 0, 1) := by decide +kernel
theorem dL_law_825 : decode code 825 = .ok (.iload_n 3, 1) := by decide +kernel
theorem dL_law_826 : decode code 826 = .ok (.iconst 1, 1) := by decide +kernel
theorem dL_law_827 : decode code 827 = .ok (.iadd, 1) := by decide +kernel
theorem dL_law_828 : decode code 828 = .ok (.iaload, 1) := by decide +kernel
theorem dL_law_829 : decode code 829 = .ok (.invokevirtual 104, 3) := by decide +kernel
theorem dL_law_832 : decode code 832 = .ok (.aload_n 2, 1) := by decide +kernel
theorem dL_law_833 : decode code 833 = .ok (.aload_n 0, 1) := by decide +kernel
theorem dL_law_834 : decode code 834 = .ok (.iload_n 3, 1) := by decide +kernel
theorem dL_law_835 : decode code 835 = .ok (.iconst 1, 1) := by decide +kernel
theorem dL_law_836 : decode code 836 = .ok (.iadd, 1) := by decide +kernel
theorem dL_law_837 : decode code 837 = .ok (.iaload, 1) := by decide +kernel
theorem dL_law_838 : decode code 838 = .ok (.invokevirtual 107, 3) := by decide +kernel
theorem dL_law_841 : decode code 841 = .ok (.if_icmp .eq 133, 3) := by decide +kernel
theorem dL_law_844 : decode code 844 = .ok (.iconst 0, 1) := by decide +kernel
theorem dL_law_845 : decode code 845 = .ok (.ireturn, 1) := by decide +kernel
theorem dL_law_846 : decode code 846 = .ok (.aload_n 1, 1) := by decide +kernel
theorem dL_law_847 : decode code 847 = .ok (.aload_n 0, 1) := by decide +kernel
theorem dL_law_848 : decode code 848 = .ok (.iload_n 3, 1) := by decide +kernel
theorem dL_law_849 : decode code 849 = .ok (.iconst 1, 1) := by decide +kernel
theorem dL_law_850 : decode code 850 = .ok (.iadd, 1) := by decide +kernel
theorem dL_law_851 : decode code 851 = .ok (.iaload, 1) := by decide +kernel
theorem dL_law_852 : decode code 852 = .ok (.invokevirtual 108, 3) := by decide +kernel
theorem dL_law_855 : decode code 855 = .ok (.aload_n 2, 1) := by decide +kernel
theorem dL_law_856 : decode code 856 = .ok (.aload_n 0, 1) := by decide +kernel
theorem dL_law_857 : decode code 857 = .ok (.iload_n 3, 1) := by decide +kernel
theorem dL_law_858 : decode code 858 = .ok (.iconst 1, 1) := by decide +kernel
theorem dL_law_859 : decode code 859 = .ok (.iadd, 1) := by decide +kernel
theorem dL_law_860 : decode code 860 = .ok (.iaload, 1) := by decide +kernel
theorem dL_law_861 : decode code 861 = .ok (.invokevirtual 111, 3) := by decide +kernel
theorem dL_law_864 : decode code 864 = .ok (.if_icmp .eq 110, 3) := by decide +kernel
theorem dL_law_867 : decode code 867 = .ok (.iconst 0, 1) := by decide +kernel
theorem dL_law_868 : decode code 868 = .ok (.ireturn, 1) := by decide +kernel
theorem dL_law_869 : decode code 869 = .ok (.aload_n 1, 1) := by decide +kernel
theorem dL_law_870 : decode code 870 = .ok (.aload_n 0, 1) := by decide +kernel
theorem dL_law_871 : decode code 871 = .ok (.iload_n 3, 1) := by decide +kernel
theorem dL_law_872 : decode code 872 = .ok (.iconst 1, 1) := by decide +kernel
theorem dL_law_873 : decode code 873 = .ok (.iadd, 1) := by decide +kernel
theorem dL_law_874 : decode code 874 = .ok (.iaload, 1) := by decide +kernel
theorem dL_law_875 : decode code 875 = .ok (.invokevirtual 112, 3) := by decide +kernel
theorem dL_law_878 : decode code 878 = .ok (.aload_n 2, 1) := by decide +kernel
theorem dL_law_879 : decode code 879 = .ok (.aload_n 0, 1) := by decide +kernel
theorem dL_law_880 : decode code 880 = .ok (.iload_n 3, 1) := by decide +kernel
theorem dL_law_881 : decode code 881 = .ok (.iconst 1, 1) := by decide +kernel
theorem dL_law_882 : decode code 882 = .ok (.iadd, 1) := by decide +kernel
theorem dL_law_883 : decode code 883 = .ok (.iaload, 1) := by decide +kernel
theorem dL_law_884 : decode code 884 = .ok (.invokevirtual 116, 3) := by decide +kernel
theorem dL_law_887 : decode code 887 = .ok (.if_icmp .eq 87, 3) := by decide +kernel
theorem dL_law_890 : decode code 890 = .ok (.iconst 0, 1) := by decide +kernel
theorem dL_law_891 : decode code 891 = .ok (.ireturn, 1) := by decide +kernel
theorem dL_law_892 : decode code 892 = .ok (.aload_n 1, 1) := by decide +kernel
theorem dL_law_893 : decode code 893 = .ok (.invokevirtual 117, 3) := by decide +kernel
theorem dL_law_896 : decode code 896 = .ok (.aload_n 2, 1) := by decide +kernel
theorem dL_law_897 : decode code 897 = .ok (.invokevirtual 120, 3) := by decide +kernel
theorem dL_law_900 : decode code 900 = .ok (.if_icmp .eq 74, 3) := by decide +kernel
theorem dL_law_903 : decode code 903 = .ok (.iconst 0, 1) := by decide +kernel
theorem dL_law_904 : decode code 904 = .ok (.ireturn, 1) := by decide +kernel
theorem dL_law_905 : decode code 905 = .ok (.aload_n 1, 1) := by decide +kernel
theorem dL_law_906 : decode code 906 = .ok (.invokevirtual 121, 3) := by decide +kernel
theorem dL_law_909 : decode code 909 = .ok (.aload_n 2, 1) := by decide +kernel
theorem dL_law_910 : decode code 910 = .ok (.invokevirtual 125, 3) := by decide +kernel
theorem dL_law_913 : decode code 913 = .ok (.if_icmp .eq 61, 3) := by decide +kernel
theorem dL_law_916 : decode code 916 = .ok (.iconst 0, 1) := by decide +kernel
theorem dL_law_917 : decode code 917 = .ok (.ireturn, 1) := by decide +kernel
theorem dL_law_918 : decode code 918 = .ok (.aload_n 1, 1) := by decide +kernel
theorem dL_law_919 : decode code 919 = .ok (.aload_n 0, 1) := by decide +kernel
theorem dL_law_920 : decode code 920 = .ok (.iload_n 3, 1) := by decide +kernel
theorem dL_law_921 : decode code 921 = .ok (.iconst 1, 1) := by decide +kernel
theorem dL_law_922 : decode code 922 = .ok (.iadd, 1) := by decide +kernel
theorem dL_law_923 : decode code 923 = .ok (.iaload, 1) := by decide +kernel
theorem dL_law_924 : decode code 924 = .ok (.aload_n 0, 1) := by decide +kernel
theorem dL_law_925 : decode code 925 = .ok (.iload_n 3, 1) := by decide +kernel
theorem dL_law_926 : decode code 926 = .ok (.iconst 2, 1) := by decide +kernel
theorem dL_law_927 : decode code 927 = .ok (.iadd, 1) := by decide +kernel
theorem dL_law_928 : decode code 928 = .ok (.iaload, 1) := by decide +kernel
theorem dL_law_929 : decode code 929 = .ok (.invokevirtual 126, 3) := by decide +kernel
theorem dL_law_932 : decode code 932 = .ok (.aload_n 2, 1) := by decide +kernel
theorem dL_law_933 : decode code 933 = .ok (.aload_n 0, 1) := by decide +kernel
theorem dL_law_934 : decode code 934 = .ok (.iload_n 3, 1) := by decide +kernel
theorem dL_law_935 : decode code 935 = .ok (.iconst 1, 1) := by decide +kernel
theorem dL_law_936 : decode code 936 = .ok (.iadd, 1) := by decide +kernel
theorem dL_law_937 : decode code 937 = .ok (.iaload, 1) := by decide +kernel
theorem dL_law_938 : decode code 938 = .ok (.aload_n 0, 1) := by decide +kernel
theorem dL_law_939 : decode code 939 = .ok (.iload_n 3, 1) := by decide +kernel
theorem dL_law_940 : decode code 940 = .ok (.iconst 2, 1) := by decide +kernel
theorem dL_law_941 : decode code 941 = .ok (.iadd, 1) := by decide +kernel
theorem dL_law_942 : decode code 942 = .ok (.iaload, 1) := by decide +kernel
theorem dL_law_943 : decode code 943 = .ok (.invokevirtual 129, 3) := by decide +kernel
theorem dL_law_946 : decode code 946 = .ok (.if_icmp .eq 28, 3) := by decide +kernel
theorem dL_law_949 : decode code 949 = .ok (.iconst 0, 1) := by decide +kernel
theorem dL_law_950 : decode code 950 = .ok (.ireturn, 1) := by decide +kernel
theorem dL_law_951 : decode code 951 = .ok (.aload_n 1, 1) := by decide +kernel
theorem dL_law_952 : decode code 952 = .ok (.aload_n 0, 1) := by decide +kernel
theorem dL_law_953 : decode code 953 = .ok (.iload_n 3, 1) := by decide +kernel
theorem dL_law_954 : decode code 954 = .ok (.iconst 1, 1) := by decide +kernel
theorem dL_law_955 : decode code 955 = .ok (.iadd, 1) := by decide +kernel
theorem dL_law_956 : decode code 956 = .ok (.iaload, 1) := by decide +kernel
theorem dL_law_957 : decode code 957 = .ok (.invokevirtual 130, 3) := by decide +kernel
theorem dL_law_960 : decode code 960 = .ok (.aload_n 2, 1) := by decide +kernel
theorem dL_law_961 : decode code 961 = .ok (.aload_n 0, 1) := by decide +kernel
theorem dL_law_962 : decode code 962 = .ok (.iload_n 3, 1) := by decide +kernel
theorem dL_law_963 : decode code 963 = .ok (.iconst 1, 1) := by decide +kernel
theorem dL_law_964 : decode code 964 = .ok (.iadd, 1) := by decide +kernel
theorem dL_law_965 : decode code 965 = .ok (.iaload, 1) := by decide +kernel
theorem dL_law_966 : decode code 966 = .ok (.invokevirtual 133, 3) := by decide +kernel
theorem dL_law_969 : decode code 969 = .ok (.if_icmp .eq 5, 3) := by decide +kernel
theorem dL_law_972 : decode code 972 = .ok (.iconst 0, 1) := by decide +kernel
theorem dL_law_973 : decode code 973 = .ok (.ireturn, 1) := by decide +kernel
theorem dL_law_974 : decode code 974 = .ok (.iinc 3 6, 3) := by decide +kernel
theorem dL_law_977 : decode code 977 = .ok (.goto (-959), 3) := by decide +kernel
theorem dL_law_980 : decode code 980 = .ok (.iconst 1, 1) := by decide +kernel
theorem dL_law_981 : decode code 981 = .ok (.ireturn, 1) := by decide +kernel
def Ax (s : State) : Nat → Prop := fun q => s.heap.size ≤ q
theorem Sx.narrow {z : Zt} {A B : Nat → Prop} {U : State} {H : Heap} (h : Sx z A U H) (hAB : ∀ q, B q → A q) : Sx z B U H :=
  ⟨h.1.narrow hAB, h.2.1.narrow hAB, h.2.2.1.narrow hAB, h.2.2.2.1.narrow hAB, h.2.2.2.2.1.narrow hAB, h.2.2.2.2.2.narrow hAB⟩
theorem Gx.narrow {z : Zt} {A B : Nat → Prop} {U : State} (h : Gx z A U) (hAB : ∀ q, B q → A q) : Gx z B U := ⟨h.1, h.2.narrow hAB⟩
theorem pw_off {d : Cds} {N b N2 b2 : Nat} {M : Mem} {z : Zt} {H H1 : Heap} (hP : va_P z.1 vwCl (pw d N b M) H) (hq : ∀ q : Nat, q < H.size → ¬ pA N2 b2 q → H1[q]? = H[q]?) (hoff : b + N ≤ b2 ∨ b2 + N2 ≤ b) : va_P z.1 vwCl (pw d N b M) H1 := by
  refine hP.kept (fun k q hk => ?_)
  obtain ⟨h1, rfl⟩ := pw_at hk
  refine hq _ ((hP k _ hk).lt) (fun h => ?_)
  simp only [pA] at h
  omega
section LC
variable {p : Program} {l : Launch} {e : Env} {R : Room} {s : State} {m : MethodId} {args : Array Value} {below : List Frame} {meth : Method} {c : Code} {H : Heap} {locs : List Loc} {cells slots : Nat} {Q : State → Prop} {cc : ByteArray} {nL : Nat} {own : String} {z : Zt} {d d2 : Cds} {N b N2 b2 : Nat} {M M' M2 : Mem} {pc : Nat} {ls : Array Slot} {rest st0 As : List Value} {y : MethodName} {bytes : ByteArray} {maxL index n : Nat} {ret : Option FieldType} {rm : Room}
/-- a call of one of the two objects: the other one's pool stays -/
theorem lcV {r : Int32} (C : CallFix p m c cc nL s args lw_good own) (G : Gx z (Ax s) s) (hP : va_P z.1 vwCl (pw d N b M) H) (hP2 : va_P z.1 vwCl (pw d2 N2 b2 M2) H) (hS : va_S (Ax s) s.heap H locs) (hb : s.heap.size ≤ b) (hoff : b2 + N2 ≤ b ∨ b + N ≤ b2) {ci : Nat} {fs : List Value} {Cn : String} {T : u_T} {Nf : Nat} (hk : 0 < N) (hd : d 0 (M.1 0) (M.2 0) = .inr (ci, fs)) (hc : vwCl[ci]? = some (Cn, T, Nf)) (hM : CI l z d N b y bytes maxL ret rm (.ref (b + 0) :: As) M M' r) (hy : yV Cn y bytes maxL ret n) (hl : Cond.methodLink own index y ∈ lw_good) (hrc : rm.cells = 0) (hrs : rm.slots = 0) (hn : As.length = n) (hR : rm.frames + 1 ≤ R.frames ∧ 8 + (maxL + 11) + rm.locals ≤ R.locals) (hls : ls.size = nL) (hst : st0 = As.reverse ++ .ref (b + 0) :: rest) (hroom : (rest.map fun v => v.category).sum ≤ 8) (hdg : decode cc pc = .ok (.invokevirtual index, 3)) (hcs : cells ≤ R.cells ∧ slots ≤ R.slots)
    (kk : ∀ (H1 : Heap) (locs1 : List Loc), va_P z.1 vwCl (pw d N b M') H1 → va_P z.1 vwCl (pw d2 N2 b2 M2) H1 → va_S (Ax s) s.heap H1 locs1 → W p l e R s m args below meth c H1 locs1 cells slots Q (F0 m (pc + 3) ls (.int r :: rest))) : W p l e R s m args below meth c H locs cells slots Q (F0 m pc ls st0) := by
  have hAB : ∀ q, pA N b q → Ax s q := fun q h => Nat.le_trans hb h.1
  refine va_calli (va_runV (As := As) (rest := rest) C hM (cwV n C.2.2.2.2 (gV hl hy) rfl hrc hrs ⟨hy.2.2.2.2.1, hy.2.2.2.2.2.1, hy.2.2.2.2.2.2.1, hy.2.2.2.2.2.2.2⟩ hR) ⟨Pw_blind, va_recv G.1.1 hP hc (by rw [pw_get hk, hd]), fun U hU hW => ⟨rfl, by rw [hU]; exact hP, (G.to hS hU hW).narrow hAB⟩⟩ rfl hn hls hst (lv_room hroom) hdg hcs) hS (fun q _ h => hAB q h) hAB (fun r2 u t H1 locs1 ht hvm hw hB hz hk1 hS1 => ?_)
  obtain ⟨rfl, rfl⟩ := hw
  refine kk H1 locs1 (by rw [← ht]; exact hB) (pw_off hP2 hk1 hoff) hS1
end LC
theorem lawIdx {L t : Nat} (hL : L ≤ 3072) (ht : t ≤ L + 6) (h : ¬ (nI L - 6) < nI t) : t + 6 ≤ L := by
  have e1 : (nI L).toInt = (L : Int) := nI_toInt (by omega)
  have e2 : (nI t).toInt = (t : Int) := nI_toInt (by omega)
  have e3 : (nI L - 6).toInt = (L : Int) - 6 := by
    rw [Int32.toInt_sub, e1]
    show ((L : Int) - 6).bmod (2 ^ 32) = _
    rw [Int.bmod_eq_of_le] <;> omega
  rw [Int32.lt_iff_toInt_lt, e3, e2] at h
  omega
theorem lawAdd {t k : Nat} : nI t + nI k = nI (t + k) := nI_add t k
/-- what is wanted of the two objects: the same answers, for ever -/
def Steps2 (Inv : Nat → Mem → Mem → Prop) (FU : Nat) : Prop :=
  (∀ (t : Nat) (Mx My : Mem) (a0 a1 : Int32), t < 3072 → Inv t Mx My → ∃ (r : Int32) (Mx' My' : Mem), f11_square FU a0 a1 Mx = some (r, Mx') ∧ f12_square FU a0 a1 My = some (r, My') ∧ Inv (t + 6) Mx' My') ∧
  (∀ (t : Nat) (Mx My : Mem) (a0 a1 a2 : Int32), t < 3072 → Inv t Mx My → ∃ (r : Int32) (Mx' My' : Mem), f11_door FU a0 a1 a2 Mx = some (r, Mx') ∧ f12_door FU a0 a1 a2 My = some (r, My') ∧ Inv (t + 6) Mx' My') ∧
  (∀ (t : Nat) (Mx My : Mem) (a0 a1 a2 a3 a4 : Int32), t < 3072 → Inv t Mx My → ∃ (r : Int32) (Mx' My' : Mem), f11_feed FU a0 a1 a2 a3 a4 Mx = some (r, Mx') ∧ f12_feed FU a0 a1 a2 a3 a4 My = some (r, My') ∧ Inv (t + 6) Mx' My') ∧
  (∀ (t : Nat) (Mx My : Mem) (a0 : Int32), t < 3072 → Inv t Mx My → ∃ (r : Int32) (Mx' My' : Mem), f11_law FU a0 Mx = some (r, Mx') ∧ f12_law FU a0 My = some (r, My') ∧ Inv (t + 6) Mx' My') ∧
  (∀ (t : Nat) (Mx My : Mem) (a0 : Int32), t < 3072 → Inv t Mx My → ∃ (r : Int32) (Mx' My' : Mem), f11_map FU a0 Mx = some (r, Mx') ∧ f12_map FU a0 My = some (r, My') ∧ Inv (t + 6) Mx' My') ∧
  (∀ (t : Nat) (Mx My : Mem) (a0 : Int32), t < 3072 → Inv t Mx My → ∃ (r : Int32) (Mx' My' : Mem), f11_notes FU a0 Mx = some (r, Mx') ∧ f12_notes FU a0 My = some (r, My') ∧ Inv (t + 6) Mx' My') ∧
  (∀ (t : Nat) (Mx My : Mem) (a0 : Int32), t < 3072 → Inv t Mx My → ∃ (r : Int32) (Mx' My' : Mem), f11_days FU a0 Mx = some (r, Mx') ∧ f12_days FU a0 My = some (r, My') ∧ Inv (t + 6) Mx' My') ∧
  (∀ (t : Nat) (Mx My : Mem) (a0 a1 : Int32), t < 3072 → Inv t Mx My → ∃ (r : Int32) (Mx' My' : Mem), f11_tried FU a0 a1 Mx = some (r, Mx') ∧ f12_tried FU a0 a1 My = some (r, My') ∧ Inv (t + 6) Mx' My') ∧
  (∀ (t : Nat) (Mx My : Mem) (a0 a1 a2 : Int32), t < 3072 → Inv t Mx My → ∃ (r : Int32) (Mx' My' : Mem), f11_placeIs FU a0 a1 a2 Mx = some (r, Mx') ∧ f12_placeIs FU a0 a1 a2 My = some (r, My') ∧ Inv (t + 6) Mx' My') ∧
  (∀ (t : Nat) (Mx My : Mem) (a0 a1 : Int32), t < 3072 → Inv t Mx My → ∃ (r : Int32) (Mx' My' : Mem), f11_likely FU a0 a1 Mx = some (r, Mx') ∧ f12_likely FU a0 a1 My = some (r, My') ∧ Inv (t + 6) Mx' My') ∧
  (∀ (t : Nat) (Mx My : Mem) (a0 a1 : Int32), t < 3072 → Inv t Mx My → ∃ (r : Int32) (Mx' My' : Mem), f11_watch FU a0 a1 Mx = some (r, Mx') ∧ f12_watch FU a0 a1 My = some (r, My') ∧ Inv (t + 6) Mx' My') ∧
  (∀ (t : Nat) (Mx My : Mem) (a0 : Int32), t < 3072 → Inv t Mx My → ∃ (r : Int32) (Mx' My' : Mem), f11_sure FU a0 Mx = some (r, Mx') ∧ f12_sure FU a0 My = some (r, My') ∧ Inv (t + 6) Mx' My') ∧
  (∀ (t : Nat) (Mx My : Mem) (a0 : Int32), t < 3072 → Inv t Mx My → ∃ (r : Int32) (Mx' My' : Mem), f11_walk FU a0 Mx = some (r, Mx') ∧ f12_walk FU a0 My = some (r, My') ∧ Inv (t + 6) Mx' My') ∧
  (∀ (t : Nat) (Mx My : Mem) , t < 3072 → Inv t Mx My → ∃ (r : Int32) (Mx' My' : Mem), f11_worn FU  Mx = some (r, Mx') ∧ f12_worn FU  My = some (r, My') ∧ Inv (t + 6) Mx' My') ∧
  (∀ (t : Nat) (Mx My : Mem) (a0 : Int32), t < 3072 → Inv t Mx My → ∃ (r : Int32) (Mx' My' : Mem), f11_far FU a0 Mx = some (r, Mx') ∧ f12_far FU a0 My = some (r, My') ∧ Inv (t + 6) Mx' My') ∧
  (∀ (t : Nat) (Mx My : Mem) (a0 a1 : Int32), t < 3072 → Inv t Mx My → ∃ (r : Int32) (Mx' My' : Mem), f11_calls FU a0 a1 Mx = some (r, Mx') ∧ f12_calls FU a0 a1 My = some (r, My') ∧ Inv (t + 6) Mx' My') ∧
  (∀ (t : Nat) (Mx My : Mem) (a0 a1 : Int32), t < 3072 → Inv t Mx My → ∃ (r : Int32) (Mx' My' : Mem), f11_old FU a0 a1 Mx = some (r, Mx') ∧ f12_old FU a0 a1 My = some (r, My') ∧ Inv (t + 6) Mx' My') ∧
  (∀ (t : Nat) (Mx My : Mem) (a0 a1 a2 : Int32), t < 3072 → Inv t Mx My → ∃ (r : Int32) (Mx' My' : Mem), f11_barred FU a0 a1 a2 Mx = some (r, Mx') ∧ f12_barred FU a0 a1 a2 My = some (r, My') ∧ Inv (t + 6) Mx' My') ∧
  (∀ (t : Nat) (Mx My : Mem) (a0 a1 : Int32), t < 3072 → Inv t Mx My → ∃ (r : Int32) (Mx' My' : Mem), f11_chase FU a0 a1 Mx = some (r, Mx') ∧ f12_chase FU a0 a1 My = some (r, My') ∧ Inv (t + 6) Mx' My') ∧
  (∀ (t : Nat) (Mx My : Mem) (a0 a1 : Int32), t < 3072 → Inv t Mx My → ∃ (r : Int32) (Mx' My' : Mem), f11_lovers FU a0 a1 Mx = some (r, Mx') ∧ f12_lovers FU a0 a1 My = some (r, My') ∧ Inv (t + 6) Mx' My') ∧
  (∀ (t : Nat) (Mx My : Mem) (a0 a1 : Int32), t < 3072 → Inv t Mx My → ∃ (r : Int32) (Mx' My' : Mem), f11_benches FU a0 a1 Mx = some (r, Mx') ∧ f12_benches FU a0 a1 My = some (r, My') ∧ Inv (t + 6) Mx' My') ∧
  (∀ (t : Nat) (Mx My : Mem) (a0 : Int32), t < 3072 → Inv t Mx My → ∃ (r : Int32) (Mx' My' : Mem), f11_pigeons FU a0 Mx = some (r, Mx') ∧ f12_pigeons FU a0 My = some (r, My') ∧ Inv (t + 6) Mx' My') ∧
  (∀ (t : Nat) (Mx My : Mem) (a0 : Int32), t < 3072 → Inv t Mx My → ∃ (r : Int32) (Mx' My' : Mem), f11_streets FU a0 Mx = some (r, Mx') ∧ f12_streets FU a0 My = some (r, My') ∧ Inv (t + 6) Mx' My') ∧
  (∀ (t : Nat) (Mx My : Mem) (a0 : Int32), t < 3072 → Inv t Mx My → ∃ (r : Int32) (Mx' My' : Mem), f11_seed FU a0 Mx = some (r, Mx') ∧ f12_seed FU a0 My = some (r, My') ∧ Inv (t + 6) Mx' My') ∧
  (∀ (t : Nat) (Mx My : Mem) , t < 3072 → Inv t Mx My → ∃ (r : Int32) (Mx' My' : Mem), f11_keep FU  Mx = some (r, Mx') ∧ f12_keep FU  My = some (r, My') ∧ Inv (t + 6) Mx' My') ∧
  (∀ (t : Nat) (Mx My : Mem) , t < 3072 → Inv t Mx My → ∃ (r : Int32) (Mx' My' : Mem), f11_undo FU  Mx = some (r, Mx') ∧ f12_undo FU  My = some (r, My') ∧ Inv (t + 6) Mx' My') ∧
  (∀ (t : Nat) (Mx My : Mem) (a0 a1 : Int32), t < 3072 → Inv t Mx My → ∃ (r : Int32) (Mx' My' : Mem), f11_check FU a0 a1 Mx = some (r, Mx') ∧ f12_check FU a0 a1 My = some (r, My') ∧ Inv (t + 6) Mx' My') ∧
  (∀ (t : Nat) (Mx My : Mem) (a0 : Int32), t < 3072 → Inv t Mx My → ∃ (r : Int32) (Mx' My' : Mem), f11_count FU a0 Mx = some (r, Mx') ∧ f12_count FU a0 My = some (r, My') ∧ Inv (t + 6) Mx' My')
set_option maxHeartbeats 4000000 in
set_option maxRecDepth 100000 in
theorem lawc_0 {p : Program} {e : Env} {s : State} {m : MethodId} {below : List Frame} {meth : Method} {c : Code} {l : Launch} {b L : Nat} {xs : Nat → Int32} (hL : L ≤ 3072) (C0 : lw_At p s m meth c b L xs) {z : Zt} (G : Gx z (Ax s) s) {b1 b2 : Nat} (hb1 : s.heap.size ≤ b1) (hb2 : b1 + 339 ≤ b2) {cells slots : Nat} (hcs : cells ≤ 600000 ∧ slots ≤ 7302250) {FU : Nat} {Mx My Mx' My' : Mem} {r : Int32} {x3 : Int32} (hi : ∀ k : Int32, k ∈ ([1, 2, 3, 4, 5] : List Int32) → vp_in (x3 + k) L) (hfx : f11_square FU (xs (x3 + (1 : Int32)).toNatClampNeg) (xs (x3 + (2 : Int32)).toNatClampNeg) Mx = some (r, Mx')) (hfy : f12_square FU (xs (x3 + (1 : Int32)).toNatClampNeg) (xs (x3 + (2 : Int32)).toNatClampNeg) My = some (r, My')) {H : Heap} {locs : List Loc} {ls : Array Slot} (hP : va_P z.1 vwCl (pw (xd z b1) 339 b1 Mx) H) (hP2 : va_P z.1 vwCl (pw (yd z b2) 32 b2 My) H) (hS : va_S (Ax s) s.heap H locs) (hl : lv_has ls 4 [(0, .ref b), (1, .ref (b1 + 0)), (2, .ref (b2 + 0)), (3, .int x3)])
    (kk : ∀ (H : Heap) (locs : List Loc) (hP : va_P z.1 vwCl (pw (xd z b1) 339 b1 Mx') H) (hP2 : va_P z.1 vwCl (pw (yd z b2) 32 b2 My') H) (hS : va_S (Ax s) s.heap H locs), W p l e room_1 s m #[Value.ref b] below meth c H locs cells slots (lw_Z below #[Value.ref b] s) (F0 m 974 ls [])) : W p l e room_1 s m #[Value.ref b] below meth c H locs cells slots (lw_Z below #[Value.ref b] s) (F0 m 160 ls []) := by
  obtain ⟨hx, hb, hr, hml, hown, hts, hX, hbl, hlocks, hgv⟩ := id C0
  have CF : CallFix p m c code 4 s #[Value.ref b] lw_good R_law := ⟨hx, hb, hml, hown, fun w hw => hts w (List.mem_filter.mp hw).1⟩
  have hbA : ¬ Ax s b := Nat.not_le.mpr hbl
  refine lv_aload_n hx hb dL_law_160 rfl (lv_at hl 1 rfl) ?_
  refine lv_aload_n hx hb dL_law_161 rfl (lv_at hl 0 rfl) ?_
  refine lv_iload_n hx hb dL_law_162 rfl (lv_at hl 3 rfl) ?_
  refine lv_iconst (v := (1 : Int32)) hx hb dL_law_163 (by decide) ?_
  refine lv_iadd hx hb dL_law_164 ?_
  refine va_sld hx hb hX hbl hbA hS (hi 1 (by decide)) dL_law_165 ?_
  refine lv_aload_n hx hb dL_law_166 rfl (lv_at hl 0 rfl) ?_
  refine lv_iload_n hx hb dL_law_167 rfl (lv_at hl 3 rfl) ?_
  refine lv_iconst (v := (2 : Int32)) hx hb dL_law_168 (by decide) ?_
  refine lv_iadd hx hb dL_law_169 ?_
  refine va_sld hx hb hX hbl hbA hS (hi 2 (by decide)) dL_law_170 ?_
  refine lcV (As := [.int (xs (x3 + (1 : Int32)).toNatClampNeg), .int (xs (x3 + (2 : Int32)).toNatClampNeg)]) CF G hP hP2 hS hb1 (Or.inr hb2) (Nat.le_of_ble_eq_true rfl) (xd_0 _ _) rfl (c11_square hfx) y11_square_w g_460 rfl rfl rfl ⟨Nat.le_of_ble_eq_true rfl, Nat.le_of_ble_eq_true rfl⟩ hl.1 rfl (Nat.le_of_ble_eq_true rfl) dL_law_171 hcs (fun H locs hP hP2 hS => ?_)
  refine lv_aload_n hx hb dL_law_174 rfl (lv_at hl 2 rfl) ?_
  refine lv_aload_n hx hb dL_law_175 rfl (lv_at hl 0 rfl) ?_
  refine lv_iload_n hx hb dL_law_176 rfl (lv_at hl 3 rfl) ?_
  refine lv_iconst (v := (1 : Int32)) hx hb dL_law_177 (by decide) ?_
  refine lv_iadd hx hb dL_law_178 ?_
  refine va_sld hx hb hX hbl hbA hS (hi 1 (by decide)) dL_law_179 ?_
  refine lv_aload_n hx hb dL_law_180 rfl (lv_at hl 0 rfl) ?_
  refine lv_iload_n hx hb dL_law_181 rfl (lv_at hl 3 rfl) ?_
  refine lv_iconst (v := (2 : Int32)) hx hb dL_law_182 (by decide) ?_
  refine lv_iadd hx hb dL_law_183 ?_
  refine va_sld hx hb hX hbl hbA hS (hi 2 (by decide)) dL_law_184 ?_
  refine lcV (As := [.int (xs (x3 + (1 : Int32)).toNatClampNeg), .int (xs (x3 + (2 : Int32)).toNatClampNeg)]) CF G hP2 hP hS (Nat.le_trans hb1 (Nat.le_trans (Nat.le_add_right _ _) hb2)) (Or.inl hb2) (Nat.le_of_ble_eq_true rfl) (yd_0 _ _) rfl (c12_square hfy) y12_square_w g_1299 rfl rfl rfl ⟨Nat.le_of_ble_eq_true rfl, Nat.le_of_ble_eq_true rfl⟩ hl.1 rfl (Nat.le_of_ble_eq_true rfl) dL_law_185 hcs (fun H locs hP2 hP hS => ?_)
  refine lv_icmp_eq (tgt := 974) hx hb dL_law_188 (by decide) (fun _ => ?_) (fun h => absurd rfl h)
  exact kk H locs hP hP2 hS
set_option maxHeartbeats 4000000 in
set_option maxRecDepth 100000 in
theorem lawc_1 {p : Program} {e : Env} {s : State} {m : MethodId} {below : List Frame} {meth : Method} {c : Code} {l : Launch} {b L : Nat} {xs : Nat → Int32} (hL : L ≤ 3072) (C0 : lw_At p s m meth c b L xs) {z : Zt} (G : Gx z (Ax s) s) {b1 b2 : Nat} (hb1 : s.heap.size ≤ b1) (hb2 : b1 + 339 ≤ b2) {cells slots : Nat} (hcs : cells ≤ 600000 ∧ slots ≤ 7302250) {FU : Nat} {Mx My Mx' My' : Mem} {r : Int32} {x3 : Int32} (hi : ∀ k : Int32, k ∈ ([1, 2, 3, 4, 5] : List Int32) → vp_in (x3 + k) L) (hfx : f11_door FU (xs (x3 + (1 : Int32)).toNatClampNeg) (xs (x3 + (2 : Int32)).toNatClampNeg) (xs (x3 + (3 : Int32)).toNatClampNeg) Mx = some (r, Mx')) (hfy : f12_door FU (xs (x3 + (1 : Int32)).toNatClampNeg) (xs (x3 + (2 : Int32)).toNatClampNeg) (xs (x3 + (3 : Int32)).toNatClampNeg) My = some (r, My')) {H : Heap} {locs : List Loc} {ls : Array Slot} (hP : va_P z.1 vwCl (pw (xd z b1) 339 b1 Mx) H) (hP2 : va_P z.1 vwCl (pw (yd z b2) 32 b2 My) H) (hS : va_S (Ax s) s.heap H locs) (hl : lv_has ls 4 [(0, .ref b), (1, .ref (b1 + 0)), (2, .ref (b2 + 0)), (3, .int x3)])
    (kk : ∀ (H : Heap) (locs : List Loc) (hP : va_P z.1 vwCl (pw (xd z b1) 339 b1 Mx') H) (hP2 : va_P z.1 vwCl (pw (yd z b2) 32 b2 My') H) (hS : va_S (Ax s) s.heap H locs), W p l e room_1 s m #[Value.ref b] below meth c H locs cells slots (lw_Z below #[Value.ref b] s) (F0 m 974 ls [])) : W p l e room_1 s m #[Value.ref b] below meth c H locs cells slots (lw_Z below #[Value.ref b] s) (F0 m 193 ls []) := by
  obtain ⟨hx, hb, hr, hml, hown, hts, hX, hbl, hlocks, hgv⟩ := id C0
  have CF : CallFix p m c code 4 s #[Value.ref b] lw_good R_law := ⟨hx, hb, hml, hown, fun w hw => hts w (List.mem_filter.mp hw).1⟩
  have hbA : ¬ Ax s b := Nat.not_le.mpr hbl
  refine lv_aload_n hx hb dL_law_193 rfl (lv_at hl 1 rfl) ?_
  refine lv_aload_n hx hb dL_law_194 rfl (lv_at hl 0 rfl) ?_
  refine lv_iload_n hx hb dL_law_195 rfl (lv_at hl 3 rfl) ?_
  refine lv_iconst (v := (1 : Int32)) hx hb dL_law_196 (by decide) ?_
  refine lv_iadd hx hb dL_law_197 ?_
  refine va_sld hx hb hX hbl hbA hS (hi 1 (by decide)) dL_law_198 ?_
  refine lv_aload_n hx hb dL_law_199 rfl (lv_at hl 0 rfl) ?_
  refine lv_iload_n hx hb dL_law_200 rfl (lv_at hl 3 rfl) ?_
  refine lv_iconst (v := (2 : Int32)) hx hb dL_law_201 (by decide) ?_
  refine lv_iadd hx hb dL_law_202 ?_
  refine va_sld hx hb hX hbl hbA hS (hi 2 (by decide)) dL_law_203 ?_
  refine lv_aload_n hx hb dL_law_204 rfl (lv_at hl 0 rfl) ?_
  refine lv_iload_n hx hb dL_law_205 rfl (lv_at hl 3 rfl) ?_
  refine lv_iconst (v := (3 : Int32)) hx hb dL_law_206 (by decide) ?_
  refine lv_iadd hx hb dL_law_207 ?_
  refine va_sld hx hb hX hbl hbA hS (hi 3 (by decide)) dL_law_208 ?_
  refine lcV (As := [.int (xs (x3 + (1 : Int32)).toNatClampNeg), .int (xs (x3 + (2 : Int32)).toNatClampNeg), .int (xs (x3 + (3 : Int32)).toNatClampNeg)]) CF G hP hP2 hS hb1 (Or.inr hb2) (Nat.le_of_ble_eq_true rfl) (xd_0 _ _) rfl (c11_door hfx) y11_door_w g_467 rfl rfl rfl ⟨Nat.le_of_ble_eq_true rfl, Nat.le_of_ble_eq_true rfl⟩ hl.1 rfl (Nat.le_of_ble_eq_true rfl) dL_law_209 hcs (fun H locs hP hP2 hS => ?_)
  refine lv_aload_n hx hb dL_law_212 rfl (lv_at hl 2 rfl) ?_
  refine lv_aload_n hx hb dL_law_213 rfl (lv_at hl 0 rfl) ?_
  refine lv_iload_n hx hb dL_law_214 rfl (lv_at hl 3 rfl) ?_
  refine lv_iconst (v := (1 : Int32)) hx hb dL_law_215 (by decide) ?_
  refine lv_iadd hx hb dL_law_216 ?_
  refine va_sld hx hb hX hbl hbA hS (hi 1 (by decide)) dL_law_217 ?_
  refine lv_aload_n hx hb dL_law_218 rfl (lv_at hl 0 rfl) ?_
  refine lv_iload_n hx hb dL_law_219 rfl (lv_at hl 3 rfl) ?_
  refine lv_iconst (v := (2 : Int32)) hx hb dL_law_220 (by decide) ?_
  refine lv_iadd hx hb dL_law_221 ?_
  refine va_sld hx hb hX hbl hbA hS (hi 2 (by decide)) dL_law_222 ?_
  refine lv_aload_n hx hb dL_law_223 rfl (lv_at hl 0 rfl) ?_
  refine lv_iload_n hx hb dL_law_224 rfl (lv_at hl 3 rfl) ?_
  refine lv_iconst (v := (3 : Int32)) hx hb dL_law_225 (by decide) ?_
  refine lv_iadd hx hb dL_law_226 ?_
  refine va_sld hx hb hX hbl hbA hS (hi 3 (by decide)) dL_law_227 ?_
  refine lcV (As := [.int (xs (x3 + (1 : Int32)).toNatClampNeg), .int (xs (x3 + (2 : Int32)).toNatClampNeg), .int (xs (x3 + (3 : Int32)).toNatClampNeg)]) CF G hP2 hP hS (Nat.le_trans hb1 (Nat.le_trans (Nat.le_add_right _ _) hb2)) (Or.inl hb2) (Nat.le_of_ble_eq_true rfl) (yd_0 _ _) rfl (c12_door hfy) y12_door_w g_1309 rfl rfl rfl ⟨Nat.le_of_ble_eq_true rfl, Nat.le_of_ble_eq_true rfl⟩ hl.1 rfl (Nat.le_of_ble_eq_true rfl) dL_law_228 hcs (fun H locs hP2 hP hS => ?_)
  refine lv_icmp_eq (tgt := 974) hx hb dL_law_231 (by decide) (fun _ => ?_) (fun h => absurd rfl h)
  exact kk H locs hP hP2 hS
set_option maxHeartbeats 4000000 in
set_option maxRecDepth 100000 in
theorem lawc_2 {p : Program} {e : Env} {s : State} {m : MethodId} {below : List Frame} {meth : Method} {c : Code} {l : Launch} {b L : Nat} {xs : Nat → Int32} (hL : L ≤ 3072) (C0 : lw_At p s m meth c b L xs) {z : Zt} (G : Gx z (Ax s) s) {b1 b2 : Nat} (hb1 : s.heap.size ≤ b1) (hb2 : b1 + 339 ≤ b2) {cells slots : Nat} (hcs : cells ≤ 600000 ∧ slots ≤ 7302250) {FU : Nat} {Mx My Mx' My' : Mem} {r : Int32} {x3 : Int32} (hi : ∀ k : Int32, k ∈ ([1, 2, 3, 4, 5] : List Int32) → vp_in (x3 + k) L) (hfx : f11_feed FU (xs (x3 + (1 : Int32)).toNatClampNeg) (xs (x3 + (2 : Int32)).toNatClampNeg) (xs (x3 + (3 : Int32)).toNatClampNeg) (xs (x3 + (4 : Int32)).toNatClampNeg) (xs (x3 + (5 : Int32)).toNatClampNeg) Mx = some (r, Mx')) (hfy : f12_feed FU (xs (x3 + (1 : Int32)).toNatClampNeg) (xs (x3 + (2 : Int32)).toNatClampNeg) (xs (x3 + (3 : Int32)).toNatClampNeg) (xs (x3 + (4 : Int32)).toNatClampNeg) (xs (x3 + (5 : Int32)).toNatClampNeg) My = some (r, My')) {H : Heap} {locs : List Loc} {ls : Array Slot} (hP : va_P z.1 vwCl (pw (xd z b1) 339 b1 Mx) H) (hP2 : va_P z.1 vwCl (pw (yd z b2) 32 b2 My) H) (hS : va_S (Ax s) s.heap H locs) (hl : lv_has ls 4 [(0, .ref b), (1, .ref (b1 + 0)), (2, .ref (b2 + 0)), (3, .int x3)])
    (kk : ∀ (H : Heap) (locs : List Loc) (hP : va_P z.1 vwCl (pw (xd z b1) 339 b1 Mx') H) (hP2 : va_P z.1 vwCl (pw (yd z b2) 32 b2 My') H) (hS : va_S (Ax s) s.heap H locs), W p l e room_1 s m #[Value.ref b] below meth c H locs cells slots (lw_Z below #[Value.ref b] s) (F0 m 974 ls [])) : W p l e room_1 s m #[Value.ref b] below meth c H locs cells slots (lw_Z below #[Value.ref b] s) (F0 m 236 ls []) := by
  obtain ⟨hx, hb, hr, hml, hown, hts, hX, hbl, hlocks, hgv⟩ := id C0
  have CF : CallFix p m c code 4 s #[Value.ref b] lw_good R_law := ⟨hx, hb, hml, hown, fun w hw => hts w (List.mem_filter.mp hw).1⟩
  have hbA : ¬ Ax s b := Nat.not_le.mpr hbl
  refine lv_aload_n hx hb dL_law_236 rfl (lv_at hl 1 rfl) ?_
  refine lv_aload_n hx hb dL_law_237 rfl (lv_at hl 0 rfl) ?_
  refine lv_iload_n hx hb dL_law_238 rfl (lv_at hl 3 rfl) ?_
  refine lv_iconst (v := (1 : Int32)) hx hb dL_law_239 (by decide) ?_
  refine lv_iadd hx hb dL_law_240 ?_
  refine va_sld hx hb hX hbl hbA hS (hi 1 (by decide)) dL_law_241 ?_
  refine lv_aload_n hx hb dL_law_242 rfl (lv_at hl 0 rfl) ?_
  refine lv_iload_n hx hb dL_law_243 rfl (lv_at hl 3 rfl) ?_
  refine lv_iconst (v := (2 : Int32)) hx hb dL_law_244 (by decide) ?_
  refine lv_iadd hx hb dL_law_245 ?_
  refine va_sld hx hb hX hbl hbA hS (hi 2 (by decide)) dL_law_246 ?_
  refine lv_aload_n hx hb dL_law_247 rfl (lv_at hl 0 rfl) ?_
  refine lv_iload_n hx hb dL_law_248 rfl (lv_at hl 3 rfl) ?_
  refine lv_iconst (v := (3 : Int32)) hx hb dL_law_249 (by decide) ?_
  refine lv_iadd hx hb dL_law_250 ?_
  refine va_sld hx hb hX hbl hbA hS (hi 3 (by decide)) dL_law_251 ?_
  refine lv_aload_n hx hb dL_law_252 rfl (lv_at hl 0 rfl) ?_
  refine lv_iload_n hx hb dL_law_253 rfl (lv_at hl 3 rfl) ?_
  refine lv_iconst (v := (4 : Int32)) hx hb dL_law_254 (by decide) ?_
  refine lv_iadd hx hb dL_law_255 ?_
  refine va_sld hx hb hX hbl hbA hS (hi 4 (by decide)) dL_law_256 ?_
  refine lv_aload_n hx hb dL_law_257 rfl (lv_at hl 0 rfl) ?_
  refine lv_iload_n hx hb dL_law_258 rfl (lv_at hl 3 rfl) ?_
  refine lv_iconst (v := (5 : Int32)) hx hb dL_law_259 (by decide) ?_
  refine lv_iadd hx hb dL_law_260 ?_
  refine va_sld hx hb hX hbl hbA hS (hi 5 (by decide)) dL_law_261 ?_
  refine lcV (As := [.int (xs (x3 + (1 : Int32)).toNatClampNeg), .int (xs (x3 + (2 : Int32)).toNatClampNeg), .int (xs (x3 + (3 : Int32)).toNatClampNeg), .int (xs (x3 + (4 : Int32)).toNatClampNeg), .int (xs (x3 + (5 : Int32)).toNatClampNeg)]) CF G hP hP2 hS hb1 (Or.inr hb2) (Nat.le_of_ble_eq_true rfl) (xd_0 _ _) rfl (c11_feed hfx) y11_feed_w g_471 rfl rfl rfl ⟨Nat.le_of_ble_eq_true rfl, Nat.le_of_ble_eq_true rfl⟩ hl.1 rfl (Nat.le_of_ble_eq_true rfl) dL_law_262 hcs (fun H locs hP hP2 hS => ?_)
  refine lv_aload_n hx hb dL_law_265 rfl (lv_at hl 2 rfl) ?_
  refine lv_aload_n hx hb dL_law_266 rfl (lv_at hl 0 rfl) ?_
  refine lv_iload_n hx hb dL_law_267 rfl (lv_at hl 3 rfl) ?_
  refine lv_iconst (v := (1 : Int32)) hx hb dL_law_268 (by decide) ?_
  refine lv_iadd hx hb dL_law_269 ?_
  refine va_sld hx hb hX hbl hbA hS (hi 1 (by decide)) dL_law_270 ?_
  refine lv_aload_n hx hb dL_law_271 rfl (lv_at hl 0 rfl) ?_
  refine lv_iload_n hx hb dL_law_272 rfl (lv_at hl 3 rfl) ?_
  refine lv_iconst (v := (2 : Int32)) hx hb dL_law_273 (by decide) ?_
  refine lv_iadd hx hb dL_law_274 ?_
  refine va_sld hx hb hX hbl hbA hS (hi 2 (by decide)) dL_law_275 ?_
  refine lv_aload_n hx hb dL_law_276 rfl (lv_at hl 0 rfl) ?_
  refine lv_iload_n hx hb dL_law_277 rfl (lv_at hl 3 rfl) ?_
  refine lv_iconst (v := (3 : Int32)) hx hb dL_law_278 (by decide) ?_
  refine lv_iadd hx hb dL_law_279 ?_
  refine va_sld hx hb hX hbl hbA hS (hi 3 (by decide)) dL_law_280 ?_
  refine lv_aload_n hx hb dL_law_281 rfl (lv_at hl 0 rfl) ?_
  refine lv_iload_n hx hb dL_law_282 rfl (lv_at hl 3 rfl) ?_
  refine lv_iconst (v := (4 : Int32)) hx hb dL_law_283 (by decide) ?_
  refine lv_iadd hx hb dL_law_284 ?_
  refine va_sld hx hb hX hbl hbA hS (hi 4 (by decide)) dL_law_285 ?_
  refine lv_aload_n hx hb dL_law_286 rfl (lv_at hl 0 rfl) ?_
  refine lv_iload_n hx hb dL_law_287 rfl (lv_at hl 3 rfl) ?_
  refine lv_iconst (v := (5 : Int32)) hx hb dL_law_288 (by decide) ?_
  refine lv_iadd hx hb dL_law_289 ?_
  refine va_sld hx hb hX hbl hbA hS (hi 5 (by decide)) dL_law_290 ?_
  refine lcV (As := [.int (xs (x3 + (1 : Int32)).toNatClampNeg), .int (xs (x3 + (2 : Int32)).toNatClampNeg), .int (xs (x3 + (3 : Int32)).toNatClampNeg), .int (xs (x3 + (4 : Int32)).toNatClampNeg), .int (xs (x3 + (5 : Int32)).toNatClampNeg)]) CF G hP2 hP hS (Nat.le_trans hb1 (Nat.le_trans (Nat.le_add_right _ _) hb2)) (Or.inl hb2) (Nat.le_of_ble_eq_true rfl) (yd_0 _ _) rfl (c12_feed hfy) y12_feed_w g_1313 rfl rfl rfl ⟨Nat.le_of_ble_eq_true rfl, Nat.le_of_ble_eq_true rfl⟩ hl.1 rfl (Nat.le_of_ble_eq_true rfl) dL_law_291 hcs (fun H locs hP2 hP hS => ?_)
  refine lv_icmp_eq (tgt := 974) hx hb dL_law_294 (by decide) (fun _ => ?_) (fun h => absurd rfl h)
  exact kk H locs hP hP2 hS
set_option maxHeartbeats 4000000 in
set_option maxRecDepth 100000 in
theorem lawc_3 {p : Program} {e : Env} {s : State} {m : MethodId} {below : List Frame} {meth : Method} {c : Code} {l : Launch} {b L : Nat} {xs : Nat → Int32} (hL : L ≤ 3072) (C0 : lw_At p s m meth c b L xs) {z : Zt} (G : Gx z (Ax s) s) {b1 b2 : Nat} (hb1 : s.heap.size ≤ b1) (hb2 : b1 + 339 ≤ b2) {cells slots : Nat} (hcs : cells ≤ 600000 ∧ slots ≤ 7302250) {FU : Nat} {Mx My Mx' My' : Mem} {r : Int32} {x3 : Int32} (hi : ∀ k : Int32, k ∈ ([1, 2, 3, 4, 5] : List Int32) → vp_in (x3 + k) L) (hfx : f11_law FU (xs (x3 + (1 : Int32)).toNatClampNeg) Mx = some (r, Mx')) (hfy : f12_law FU (xs (x3 + (1 : Int32)).toNatClampNeg) My = some (r, My')) {H : Heap} {locs : List Loc} {ls : Array Slot} (hP : va_P z.1 vwCl (pw (xd z b1) 339 b1 Mx) H) (hP2 : va_P z.1 vwCl (pw (yd z b2) 32 b2 My) H) (hS : va_S (Ax s) s.heap H locs) (hl : lv_has ls 4 [(0, .ref b), (1, .ref (b1 + 0)), (2, .ref (b2 + 0)), (3, .int x3)])
    (kk : ∀ (H : Heap) (locs : List Loc) (hP : va_P z.1 vwCl (pw (xd z b1) 339 b1 Mx') H) (hP2 : va_P z.1 vwCl (pw (yd z b2) 32 b2 My') H) (hS : va_S (Ax s) s.heap H locs), W p l e room_1 s m #[Value.ref b] below meth c H locs cells slots (lw_Z below #[Value.ref b] s) (F0 m 974 ls [])) : W p l e room_1 s m #[Value.ref b] below meth c H locs cells slots (lw_Z below #[Value.ref b] s) (F0 m 299 ls []) := by
  obtain ⟨hx, hb, hr, hml, hown, hts, hX, hbl, hlocks, hgv⟩ := id C0
  have CF : CallFix p m c code 4 s #[Value.ref b] lw_good R_law := ⟨hx, hb, hml, hown, fun w hw => hts w (List.mem_filter.mp hw).1⟩
  have hbA : ¬ Ax s b := Nat.not_le.mpr hbl
  refine lv_aload_n hx hb dL_law_299 rfl (lv_at hl 1 rfl) ?_
  refine lv_aload_n hx hb dL_law_300 rfl (lv_at hl 0 rfl) ?_
  refine lv_iload_n hx hb dL_law_301 rfl (lv_at hl 3 rfl) ?_
  refine lv_iconst (v := (1 : Int32)) hx hb dL_law_302 (by decide) ?_
  refine lv_iadd hx hb dL_law_303 ?_
  refine va_sld hx hb hX hbl hbA hS (hi 1 (by decide)) dL_law_304 ?_
  refine lcV (As := [.int (xs (x3 + (1 : Int32)).toNatClampNeg)]) CF G hP hP2 hS hb1 (Or.inr hb2) (Nat.le_of_ble_eq_true rfl) (xd_0 _ _) rfl (c11_law hfx) y11_law_w g_483 rfl rfl rfl ⟨Nat.le_of_ble_eq_true rfl, Nat.le_of_ble_eq_true rfl⟩ hl.1 rfl (Nat.le_of_ble_eq_true rfl) dL_law_305 hcs (fun H locs hP hP2 hS => ?_)
  refine lv_aload_n hx hb dL_law_308 rfl (lv_at hl 2 rfl) ?_
  refine lv_aload_n hx hb dL_law_309 rfl (lv_at hl 0 rfl) ?_
  refine lv_iload_n hx hb dL_law_310 rfl (lv_at hl 3 rfl) ?_
  refine lv_iconst (v := (1 : Int32)) hx hb dL_law_311 (by decide) ?_
  refine lv_iadd hx hb dL_law_312 ?_
  refine va_sld hx hb hX hbl hbA hS (hi 1 (by decide)) dL_law_313 ?_
  refine lcV (As := [.int (xs (x3 + (1 : Int32)).toNatClampNeg)]) CF G hP2 hP hS (Nat.le_trans hb1 (Nat.le_trans (Nat.le_add_right _ _) hb2)) (Or.inl hb2) (Nat.le_of_ble_eq_true rfl) (yd_0 _ _) rfl (c12_law hfy) y12_law_w g_1321 rfl rfl rfl ⟨Nat.le_of_ble_eq_true rfl, Nat.le_of_ble_eq_true rfl⟩ hl.1 rfl (Nat.le_of_ble_eq_true rfl) dL_law_314 hcs (fun H locs hP2 hP hS => ?_)
  refine lv_icmp_eq (tgt := 974) hx hb dL_law_317 (by decide) (fun _ => ?_) (fun h => absurd rfl h)
  exact kk H locs hP hP2 hS
set_option maxHeartbeats 4000000 in
set_option maxRecDepth 100000 in
theorem lawc_4 {p : Program} {e : Env} {s : State} {m : MethodId} {below : List Frame} {meth : Method} {c : Code} {l : Launch} {b L : Nat} {xs : Nat → Int32} (hL : L ≤ 3072) (C0 : lw_At p s m meth c b L xs) {z : Zt} (G : Gx z (Ax s) s) {b1 b2 : Nat} (hb1 : s.heap.size ≤ b1) (hb2 : b1 + 339 ≤ b2) {cells slots : Nat} (hcs : cells ≤ 600000 ∧ slots ≤ 7302250) {FU : Nat} {Mx My Mx' My' : Mem} {r : Int32} {x3 : Int32} (hi : ∀ k : Int32, k ∈ ([1, 2, 3, 4, 5] : List Int32) → vp_in (x3 + k) L) (hfx : f11_map FU (xs (x3 + (1 : Int32)).toNatClampNeg) Mx = some (r, Mx')) (hfy : f12_map FU (xs (x3 + (1 : Int32)).toNatClampNeg) My = some (r, My')) {H : Heap} {locs : List Loc} {ls : Array Slot} (hP : va_P z.1 vwCl (pw (xd z b1) 339 b1 Mx) H) (hP2 : va_P z.1 vwCl (pw (yd z b2) 32 b2 My) H) (hS : va_S (Ax s) s.heap H locs) (hl : lv_has ls 4 [(0, .ref b), (1, .ref (b1 + 0)), (2, .ref (b2 + 0)), (3, .int x3)])
    (kk : ∀ (H : Heap) (locs : List Loc) (hP : va_P z.1 vwCl (pw (xd z b1) 339 b1 Mx') H) (hP2 : va_P z.1 vwCl (pw (yd z b2) 32 b2 My') H) (hS : va_S (Ax s) s.heap H locs), W p l e room_1 s m #[Value.ref b] below meth c H locs cells slots (lw_Z below #[Value.ref b] s) (F0 m 974 ls [])) : W p l e room_1 s m #[Value.ref b] below meth c H locs cells slots (lw_Z below #[Value.ref b] s) (F0 m 322 ls []) := by
  obtain ⟨hx, hb, hr, hml, hown, hts, hX, hbl, hlocks, hgv⟩ := id C0
  have CF : CallFix p m c code 4 s #[Value.ref b] lw_good R_law := ⟨hx, hb, hml, hown, fun w hw => hts w (List.mem_filter.mp hw).1⟩
  have hbA : ¬ Ax s b := Nat.not_le.mpr hbl
  refine lv_aload_n hx hb dL_law_322 rfl (lv_at hl 1 rfl) ?_
  refine lv_aload_n hx hb dL_law_323 rfl (lv_at hl 0 rfl) ?_
  refine lv_iload_n hx hb dL_law_324 rfl (lv_at hl 3 rfl) ?_
  refine lv_iconst (v := (1 : Int32)) hx hb dL_law_325 (by decide) ?_
  refine lv_iadd hx hb dL_law_326 ?_
  refine va_sld hx hb hX hbl hbA hS (hi 1 (by decide)) dL_law_327 ?_
  refine lcV (As := [.int (xs (x3 + (1 : Int32)).toNatClampNeg)]) CF G hP hP2 hS hb1 (Or.inr hb2) (Nat.le_of_ble_eq_true rfl) (xd_0 _ _) rfl (c11_map hfx) y11_map_w g_675 rfl rfl rfl ⟨Nat.le_of_ble_eq_true rfl, Nat.le_of_ble_eq_true rfl⟩ hl.1 rfl (Nat.le_of_ble_eq_true rfl) dL_law_328 hcs (fun H locs hP hP2 hS => ?_)
  refine lv_aload_n hx hb dL_law_331 rfl (lv_at hl 2 rfl) ?_
  refine lv_aload_n hx hb dL_law_332 rfl (lv_at hl 0 rfl) ?_
  refine lv_iload_n hx hb dL_law_333 rfl (lv_at hl 3 rfl) ?_
  refine lv_iconst (v := (1 : Int32)) hx hb dL_law_334 (by decide) ?_
  refine lv_iadd hx hb dL_law_335 ?_
  refine va_sld hx hb hX hbl hbA hS (hi 1 (by decide)) dL_law_336 ?_
  refine lcV (As := [.int (xs (x3 + (1 : Int32)).toNatClampNeg)]) CF G hP2 hP hS (Nat.le_trans hb1 (Nat.le_trans (Nat.le_add_right _ _) hb2)) (Or.inl hb2) (Nat.le_of_ble_eq_true rfl) (yd_0 _ _) rfl (c12_map hfy) y12_map_w g_1408 rfl rfl rfl ⟨Nat.le_of_ble_eq_true rfl, Nat.le_of_ble_eq_true rfl⟩ hl.1 rfl (Nat.le_of_ble_eq_true rfl) dL_law_337 hcs (fun H locs hP2 hP hS => ?_)
  refine lv_icmp_eq (tgt := 974) hx hb dL_law_340 (by decide) (fun _ => ?_) (fun h => absurd rfl h)
  exact kk H locs hP hP2 hS
set_option maxHeartbeats 4000000 in
set_option maxRecDepth 100000 in
theorem lawc_5 {p : Program} {e : Env} {s : State} {m : MethodId} {below : List Frame} {meth : Method} {c : Code} {l : Launch} {b L : Nat} {xs : Nat → Int32} (hL : L ≤ 3072) (C0 : lw_At p s m meth c b L xs) {z : Zt} (G : Gx z (Ax s) s) {b1 b2 : Nat} (hb1 : s.heap.size ≤ b1) (hb2 : b1 + 339 ≤ b2) {cells slots : Nat} (hcs : cells ≤ 600000 ∧ slots ≤ 7302250) {FU : Nat} {Mx My Mx' My' : Mem} {r : Int32} {x3 : Int32} (hi : ∀ k : Int32, k ∈ ([1, 2, 3, 4, 5] : List Int32) → vp_in (x3 + k) L) (hfx : f11_notes FU (xs (x3 + (1 : Int32)).toNatClampNeg) Mx = some (r, Mx')) (hfy : f12_notes FU (xs (x3 + (1 : Int32)).toNatClampNeg) My = some (r, My')) {H : Heap} {locs : List Loc} {ls : Array Slot} (hP : va_P z.1 vwCl (pw (xd z b1) 339 b1 Mx) H) (hP2 : va_P z.1 vwCl (pw (yd z b2) 32 b2 My) H) (hS : va_S (Ax s) s.heap H locs) (hl : lv_has ls 4 [(0, .ref b), (1, .ref (b1 + 0)), (2, .ref (b2 + 0)), (3, .int x3)])
    (kk : ∀ (H : Heap) (locs : List Loc) (hP : va_P z.1 vwCl (pw (xd z b1) 339 b1 Mx') H) (hP2 : va_P z.1 vwCl (pw (yd z b2) 32 b2 My') H) (hS : va_S (Ax s) s.heap H locs), W p l e room_1 s m #[Value.ref b] below meth c H locs cells slots (lw_Z below #[Value.ref b] s) (F0 m 974 ls [])) : W p l e room_1 s m #[Value.ref b] below meth c H locs cells slots (lw_Z below #[Value.ref b] s) (F0 m 345 ls []) := by
  obtain ⟨hx, hb, hr, hml, hown, hts, hX, hbl, hlocks, hgv⟩ := id C0
  have CF : CallFix p m c code 4 s #[Value.ref b] lw_good R_law := ⟨hx, hb, hml, hown, fun w hw => hts w (List.mem_filter.mp hw).1⟩
  have hbA : ¬ Ax s b := Nat.not_le.mpr hbl
  refine lv_aload_n hx hb dL_law_345 rfl (lv_at hl 1 rfl) ?_
  refine lv_aload_n hx hb dL_law_346 rfl (lv_at hl 0 rfl) ?_
  refine lv_iload_n hx hb dL_law_347 rfl (lv_at hl 3 rfl) ?_
  refine lv_iconst (v := (1 : Int32)) hx hb dL_law_348 (by decide) ?_
  refine lv_iadd hx hb dL_law_349 ?_
  refine va_sld hx hb hX hbl hbA hS (hi 1 (by decide)) dL_law_350 ?_
  refine lcV (As := [.int (xs (x3 + (1 : Int32)).toNatClampNeg)]) CF G hP hP2 hS hb1 (Or.inr hb2) (Nat.le_of_ble_eq_true rfl) (xd_0 _ _) rfl (c11_notes hfx) y11_notes_w g_691 rfl rfl rfl ⟨Nat.le_of_ble_eq_true rfl, Nat.le_of_ble_eq_true rfl⟩ hl.1 rfl (Nat.le_of_ble_eq_true rfl) dL_law_351 hcs (fun H locs hP hP2 hS => ?_)
  refine lv_aload_n hx hb dL_law_354 rfl (lv_at hl 2 rfl) ?_
  refine lv_aload_n hx hb dL_law_355 rfl (lv_at hl 0 rfl) ?_
  refine lv_iload_n hx hb dL_law_356 rfl (lv_at hl 3 rfl) ?_
  refine lv_iconst (v := (1 : Int32)) hx hb dL_law_357 (by decide) ?_
  refine lv_iadd hx hb dL_law_358 ?_
  refine va_sld hx hb hX hbl hbA hS (hi 1 (by decide)) dL_law_359 ?_
  refine lcV (As := [.int (xs (x3 + (1 : Int32)).toNatClampNeg)]) CF G hP2 hP hS (Nat.le_trans hb1 (Nat.le_trans (Nat.le_add_right _ _) hb2)) (Or.inl hb2) (Nat.le_of_ble_eq_true rfl) (yd_0 _ _) rfl (c12_notes hfy) y12_notes_w g_1423 rfl rfl rfl ⟨Nat.le_of_ble_eq_true rfl, Nat.le_of_ble_eq_true rfl⟩ hl.1 rfl (Nat.le_of_ble_eq_true rfl) dL_law_360 hcs (fun H locs hP2 hP hS => ?_)
  refine lv_icmp_eq (tgt := 974) hx hb dL_law_363 (by decide) (fun _ => ?_) (fun h => absurd rfl h)
  exact kk H locs hP hP2 hS
set_option maxHeartbeats 4000000 in
set_option maxRecDepth 100000 in
theorem lawc_6 {p : Program} {e : Env} {s : State} {m : MethodId} {below : List Frame} {meth : Method} {c : Code} {l : Launch} {b L : Nat} {xs : Nat → Int32} (hL : L ≤ 3072) (C0 : lw_At p s m meth c b L xs) {z : Zt} (G : Gx z (Ax s) s) {b1 b2 : Nat} (hb1 : s.heap.size ≤ b1) (hb2 : b1 + 339 ≤ b2) {cells slots : Nat} (hcs : cells ≤ 600000 ∧ slots ≤ 7302250) {FU : Nat} {Mx My Mx' My' : Mem} {r : Int32} {x3 : Int32} (hi : ∀ k : Int32, k ∈ ([1, 2, 3, 4, 5] : List Int32) → vp_in (x3 + k) L) (hfx : f11_days FU (xs (x3 + (1 : Int32)).toNatClampNeg) Mx = some (r, Mx')) (hfy : f12_days FU (xs (x3 + (1 : Int32)).toNatClampNeg) My = some (r, My')) {H : Heap} {locs : List Loc} {ls : Array Slot} (hP : va_P z.1 vwCl (pw (xd z b1) 339 b1 Mx) H) (hP2 : va_P z.1 vwCl (pw (yd z b2) 32 b2 My) H) (hS : va_S (Ax s) s.heap H locs) (hl : lv_has ls 4 [(0, .ref b), (1, .ref (b1 + 0)), (2, .ref (b2 + 0)), (3, .int x3)])
    (kk : ∀ (H : Heap) (locs : List Loc) (hP : va_P z.1 vwCl (pw (xd z b1) 339 b1 Mx') H) (hP2 : va_P z.1 vwCl (pw (yd z b2) 32 b2 My') H) (hS : va_S (Ax s) s.heap H locs), W p l e room_1 s m #[Value.ref b] below meth c H locs cells slots (lw_Z below #[Value.ref b] s) (F0 m 974 ls [])) : W p l e room_1 s m #[Value.ref b] below meth c H locs cells slots (lw_Z below #[Value.ref b] s) (F0 m 368 ls []) := by
  obtain ⟨hx, hb, hr, hml, hown, hts, hX, hbl, hlocks, hgv⟩ := id C0
  have CF : CallFix p m c code 4 s #[Value.ref b] lw_good R_law := ⟨hx, hb, hml, hown, fun w hw => hts w (List.mem_filter.mp hw).1⟩
  have hbA : ¬ Ax s b := Nat.not_le.mpr hbl
  refine lv_aload_n hx hb dL_law_368 rfl (lv_at hl 1 rfl) ?_
  refine lv_aload_n hx hb dL_law_369 rfl (lv_at hl 0 rfl) ?_
  refine lv_iload_n hx hb dL_law_370 rfl (lv_at hl 3 rfl) ?_
  refine lv_iconst (v := (1 : Int32)) hx hb dL_law_371 (by decide) ?_
  refine lv_iadd hx hb dL_law_372 ?_
  refine va_sld hx hb hX hbl hbA hS (hi 1 (by decide)) dL_law_373 ?_
  refine lcV (As := [.int (xs (x3 + (1 : Int32)).toNatClampNeg)]) CF G hP hP2 hS hb1 (Or.inr hb2) (Nat.le_of_ble_eq_true rfl) (xd_0 _ _) rfl (c11_days hfx) y11_days_w g_717 rfl rfl rfl ⟨Nat.le_of_ble_eq_true rfl, Nat.le_of_ble_eq_true rfl⟩ hl.1 rfl (Nat.le_of_ble_eq_true rfl) dL_law_374 hcs (fun H locs hP hP2 hS => ?_)
  refine lv_aload_n hx hb dL_law_377 rfl (lv_at hl 2 rfl) ?_
  refine lv_aload_n hx hb dL_law_378 rfl (lv_at hl 0 rfl) ?_
  refine lv_iload_n hx hb dL_law_379 rfl (lv_at hl 3 rfl) ?_
  refine lv_iconst (v := (1 : Int32)) hx hb dL_law_380 (by decide) ?_
  refine lv_iadd hx hb dL_law_381 ?_
  refine va_sld hx hb hX hbl hbA hS (hi 1 (by decide)) dL_law_382 ?_
  refine lcV (As := [.int (xs (x3 + (1 : Int32)).toNatClampNeg)]) CF G hP2 hP hS (Nat.le_trans hb1 (Nat.le_trans (Nat.le_add_right _ _) hb2)) (Or.inl hb2) (Nat.le_of_ble_eq_true rfl) (yd_0 _ _) rfl (c12_days hfy) y12_days_w g_1435 rfl rfl rfl ⟨Nat.le_of_ble_eq_true rfl, Nat.le_of_ble_eq_true rfl⟩ hl.1 rfl (Nat.le_of_ble_eq_true rfl) dL_law_383 hcs (fun H locs hP2 hP hS => ?_)
  refine lv_icmp_eq (tgt := 974) hx hb dL_law_386 (by decide) (fun _ => ?_) (fun h => absurd rfl h)
  exact kk H locs hP hP2 hS
set_option maxHeartbeats 4000000 in
set_option maxRecDepth 100000 in
theorem lawc_7 {p : Program} {e : Env} {s : State} {m : MethodId} {below : List Frame} {meth : Method} {c : Code} {l : Launch} {b L : Nat} {xs : Nat → Int32} (hL : L ≤ 3072) (C0 : lw_At p s m meth c b L xs) {z : Zt} (G : Gx z (Ax s) s) {b1 b2 : Nat} (hb1 : s.heap.size ≤ b1) (hb2 : b1 + 339 ≤ b2) {cells slots : Nat} (hcs : cells ≤ 600000 ∧ slots ≤ 7302250) {FU : Nat} {Mx My Mx' My' : Mem} {r : Int32} {x3 : Int32} (hi : ∀ k : Int32, k ∈ ([1, 2, 3, 4, 5] : List Int32) → vp_in (x3 + k) L) (hfx : f11_tried FU (xs (x3 + (1 : Int32)).toNatClampNeg) (xs (x3 + (2 : Int32)).toNatClampNeg) Mx = some (r, Mx')) (hfy : f12_tried FU (xs (x3 + (1 : Int32)).toNatClampNeg) (xs (x3 + (2 : Int32)).toNatClampNeg) My = some (r, My')) {H : Heap} {locs : List Loc} {ls : Array Slot} (hP : va_P z.1 vwCl (pw (xd z b1) 339 b1 Mx) H) (hP2 : va_P z.1 vwCl (pw (yd z b2) 32 b2 My) H) (hS : va_S (Ax s) s.heap H locs) (hl : lv_has ls 4 [(0, .ref b), (1, .ref (b1 + 0)), (2, .ref (b2 + 0)), (3, .int x3)])
    (kk : ∀ (H : Heap) (locs : List Loc) (hP : va_P z.1 vwCl (pw (xd z b1) 339 b1 Mx') H) (hP2 : va_P z.1 vwCl (pw (yd z b2) 32 b2 My') H) (hS : va_S (Ax s) s.heap H locs), W p l e room_1 s m #[Value.ref b] below meth c H locs cells slots (lw_Z below #[Value.ref b] s) (F0 m 974 ls [])) : W p l e room_1 s m #[Value.ref b] below meth c H locs cells slots (lw_Z below #[Value.ref b] s) (F0 m 391 ls []) := by
  obtain ⟨hx, hb, hr, hml, hown, hts, hX, hbl, hlocks, hgv⟩ := id C0
  have CF : CallFix p m c code 4 s #[Value.ref b] lw_good R_law := ⟨hx, hb, hml, hown, fun w hw => hts w (List.mem_filter.mp hw).1⟩
  have hbA : ¬ Ax s b := Nat.not_le.mpr hbl
  refine lv_aload_n hx hb dL_law_391 rfl (lv_at hl 1 rfl) ?_
  refine lv_aload_n hx hb dL_law_392 rfl (lv_at hl 0 rfl) ?_
  refine lv_iload_n hx hb dL_law_393 rfl (lv_at hl 3 rfl) ?_
  refine lv_iconst (v := (1 : Int32)) hx hb dL_law_394 (by decide) ?_
  refine lv_iadd hx hb dL_law_395 ?_
  refine va_sld hx hb hX hbl hbA hS (hi 1 (by decide)) dL_law_396 ?_
  refine lv_aload_n hx hb dL_law_397 rfl (lv_at hl 0 rfl) ?_
  refine lv_iload_n hx hb dL_law_398 rfl (lv_at hl 3 rfl) ?_
  refine lv_iconst (v := (2 : Int32)) hx hb dL_law_399 (by decide) ?_
  refine lv_iadd hx hb dL_law_400 ?_
  refine va_sld hx hb hX hbl hbA hS (hi 2 (by decide)) dL_law_401 ?_
  refine lcV (As := [.int (xs (x3 + (1 : Int32)).toNatClampNeg), .int (xs (x3 + (2 : Int32)).toNatClampNeg)]) CF G hP hP2 hS hb1 (Or.inr hb2) (Nat.le_of_ble_eq_true rfl) (xd_0 _ _) rfl (c11_tried hfx) y11_tried_w g_807 rfl rfl rfl ⟨Nat.le_of_ble_eq_true rfl, Nat.le_of_ble_eq_true rfl⟩ hl.1 rfl (Nat.le_of_ble_eq_true rfl) dL_law_402 hcs (fun H locs hP hP2 hS => ?_)
  refine lv_aload_n hx hb dL_law_405 rfl (lv_at hl 2 rfl) ?_
  refine lv_aload_n hx hb dL_law_406 rfl (lv_at hl 0 rfl) ?_
  refine lv_iload_n hx hb dL_law_407 rfl (lv_at hl 3 rfl) ?_
  refine lv_iconst (v := (1 : Int32)) hx hb dL_law_408 (by decide) ?_
  refine lv_iadd hx hb dL_law_409 ?_
  refine va_sld hx hb hX hbl hbA hS (hi 1 (by decide)) dL_law_410 ?_
  refine lv_aload_n hx hb dL_law_411 rfl (lv_at hl 0 rfl) ?_
  refine lv_iload_n hx hb dL_law_412 rfl (lv_at hl 3 rfl) ?_
  refine lv_iconst (v := (2 : Int32)) hx hb dL_law_413 (by decide) ?_
  refine lv_iadd hx hb dL_law_414 ?_
  refine va_sld hx hb hX hbl hbA hS (hi 2 (by decide)) dL_law_415 ?_
  refine lcV (As := [.int (xs (x3 + (1 : Int32)).toNatClampNeg), .int (xs (x3 + (2 : Int32)).toNatClampNeg)]) CF G hP2 hP hS (Nat.le_trans hb1 (Nat.le_trans (Nat.le_add_right _ _) hb2)) (Or.inl hb2) (Nat.le_of_ble_eq_true rfl) (yd_0 _ _) rfl (c12_tried hfy) y12_tried_w g_1515 rfl rfl rfl ⟨Nat.le_of_ble_eq_true rfl, Nat.le_of_ble_eq_true rfl⟩ hl.1 rfl (Nat.le_of_ble_eq_true rfl) dL_law_416 hcs (fun H locs hP2 hP hS => ?_)
  refine lv_icmp_eq (tgt := 974) hx hb dL_law_419 (by decide) (fun _ => ?_) (fun h => absurd rfl h)
  exact kk H locs hP hP2 hS
set_option maxHeartbeats 4000000 in
set_option maxRecDepth 100000 in
theorem lawc_8 {p : Program} {e : Env} {s : State} {m : MethodId} {below : List Frame} {meth : Method} {c : Code} {l : Launch} {b L : Nat} {xs : Nat → Int32} (hL : L ≤ 3072) (C0 : lw_At p s m meth c b L xs) {z : Zt} (G : Gx z (Ax s) s) {b1 b2 : Nat} (hb1 : s.heap.size ≤ b1) (hb2 : b1 + 339 ≤ b2) {cells slots : Nat} (hcs : cells ≤ 600000 ∧ slots ≤ 7302250) {FU : Nat} {Mx My Mx' My' : Mem} {r : Int32} {x3 : Int32} (hi : ∀ k : Int32, k ∈ ([1, 2, 3, 4, 5] : List Int32) → vp_in (x3 + k) L) (hfx : f11_placeIs FU (xs (x3 + (1 : Int32)).toNatClampNeg) (xs (x3 + (2 : Int32)).toNatClampNeg) (xs (x3 + (3 : Int32)).toNatClampNeg) Mx = some (r, Mx')) (hfy : f12_placeIs FU (xs (x3 + (1 : Int32)).toNatClampNeg) (xs (x3 + (2 : Int32)).toNatClampNeg) (xs (x3 + (3 : Int32)).toNatClampNeg) My = some (r, My')) {H : Heap} {locs : List Loc} {ls : Array Slot} (hP : va_P z.1 vwCl (pw (xd z b1) 339 b1 Mx) H) (hP2 : va_P z.1 vwCl (pw (yd z b2) 32 b2 My) H) (hS : va_S (Ax s) s.heap H locs) (hl : lv_has ls 4 [(0, .ref b), (1, .ref (b1 + 0)), (2, .ref (b2 + 0)), (3, .int x3)])
    (kk : ∀ (H : Heap) (locs : List Loc) (hP : va_P z.1 vwCl (pw (xd z b1) 339 b1 Mx') H) (hP2 : va_P z.1 vwCl (pw (yd z b2) 32 b2 My') H) (hS : va_S (Ax s) s.heap H locs), W p l e room_1 s m #[Value.ref b] below meth c H locs cells slots (lw_Z below #[Value.ref b] s) (F0 m 974 ls [])) : W p l e room_1 s m #[Value.ref b] below meth c H locs cells slots (lw_Z below #[Value.ref b] s) (F0 m 424 ls []) := by
  obtain ⟨hx, hb, hr, hml, hown, hts, hX, hbl, hlocks, hgv⟩ := id C0
  have CF : CallFix p m c code 4 s #[Value.ref b] lw_good R_law := ⟨hx, hb, hml, hown, fun w hw => hts w (List.mem_filter.mp hw).1⟩
  have hbA : ¬ Ax s b := Nat.not_le.mpr hbl
  refine lv_aload_n hx hb dL_law_424 rfl (lv_at hl 1 rfl) ?_
  refine lv_aload_n hx hb dL_law_425 rfl (lv_at hl 0 rfl) ?_
  refine lv_iload_n hx hb dL_law_426 rfl (lv_at hl 3 rfl) ?_
  refine lv_iconst (v := (1 : Int32)) hx hb dL_law_427 (by decide) ?_
  refine lv_iadd hx hb dL_law_428 ?_
  refine va_sld hx hb hX hbl hbA hS (hi 1 (by decide)) dL_law_429 ?_
  refine lv_aload_n hx hb dL_law_430 rfl (lv_at hl 0 rfl) ?_
  refine lv_iload_n hx hb dL_law_431 rfl (lv_at hl 3 rfl) ?_
  refine lv_iconst (v := (2 : Int32)) hx hb dL_law_432 (by decide) ?_
  refine lv_iadd hx hb dL_law_433 ?_
  refine va_sld hx hb hX hbl hbA hS (hi 2 (by decide)) dL_law_434 ?_
  refine lv_aload_n hx hb dL_law_435 rfl (lv_at hl 0 rfl) ?_
  refine lv_iload_n hx hb dL_law_436 rfl (lv_at hl 3 rfl) ?_
  refine lv_iconst (v := (3 : Int32)) hx hb dL_law_437 (by decide) ?_
  refine lv_iadd hx hb dL_law_438 ?_
  refine va_sld hx hb hX hbl hbA hS (hi 3 (by decide)) dL_law_439 ?_
  refine lcV (As := [.int (xs (x3 + (1 : Int32)).toNatClampNeg), .int (xs (x3 + (2 : Int32)).toNatClampNeg), .int (xs (x3 + (3 : Int32)).toNatClampNeg)]) CF G hP hP2 hS hb1 (Or.inr hb2) (Nat.le_of_ble_eq_true rfl) (xd_0 _ _) rfl (c11_placeIs hfx) y11_placeIs_w g_817 rfl rfl rfl ⟨Nat.le_of_ble_eq_true rfl, Nat.le_of_ble_eq_true rfl⟩ hl.1 rfl (Nat.le_of_ble_eq_true rfl) dL_law_440 hcs (fun H locs hP hP2 hS => ?_)
  refine lv_aload_n hx hb dL_law_443 rfl (lv_at hl 2 rfl) ?_
  refine lv_aload_n hx hb dL_law_444 rfl (lv_at hl 0 rfl) ?_
  refine lv_iload_n hx hb dL_law_445 rfl (lv_at hl 3 rfl) ?_
  refine lv_iconst (v := (1 : Int32)) hx hb dL_law_446 (by decide) ?_
  refine lv_iadd hx hb dL_law_447 ?_
  refine va_sld hx hb hX hbl hbA hS (hi 1 (by decide)) dL_law_448 ?_
  refine lv_aload_n hx hb dL_law_449 rfl (lv_at hl 0 rfl) ?_
  refine lv_iload_n hx hb dL_law_450 rfl (lv_at hl 3 rfl) ?_
  refine lv_iconst (v := (2 : Int32)) hx hb dL_law_451 (by decide) ?_
  refine lv_iadd hx hb dL_law_452 ?_
  refine va_sld hx hb hX hbl hbA hS (hi 2 (by decide)) dL_law_453 ?_
  refine lv_aload_n hx hb dL_law_454 rfl (lv_at hl 0 rfl) ?_
  refine lv_iload_n hx hb dL_law_455 rfl (lv_at hl 3 rfl) ?_
  refine lv_iconst (v := (3 : Int32)) hx hb dL_law_456 (by decide) ?_
  refine lv_iadd hx hb dL_law_457 ?_
  refine va_sld hx hb hX hbl hbA hS (hi 3 (by decide)) dL_law_458 ?_
  refine lcV (As := [.int (xs (x3 + (1 : Int32)).toNatClampNeg), .int (xs (x3 + (2 : Int32)).toNatClampNeg), .int (xs (x3 + (3 : Int32)).toNatClampNeg)]) CF G hP2 hP hS (Nat.le_trans hb1 (Nat.le_trans (Nat.le_add_right _ _) hb2)) (Or.inl hb2) (Nat.le_of_ble_eq_true rfl) (yd_0 _ _) rfl (c12_placeIs hfy) y12_placeIs_w g_1522 rfl rfl rfl ⟨Nat.le_of_ble_eq_true rfl, Nat.le_of_ble_eq_true rfl⟩ hl.1 rfl (Nat.le_of_ble_eq_true rfl) dL_law_459 hcs (fun H locs hP2 hP hS => ?_)
  refine lv_icmp_eq (tgt := 974) hx hb dL_law_462 (by decide) (fun _ => ?_) (fun h => absurd rfl h)
  exact kk H locs hP hP2 hS
set_option maxHeartbeats 4000000 in
set_option maxRecDepth 100000 in
theorem lawc_9 {p : Program} {e : Env} {s : State} {m : MethodId} {below : List Frame} {meth : Method} {c : Code} {l : Launch} {b L : Nat} {xs : Nat → Int32} (hL : L ≤ 3072) (C0 : lw_At p s m meth c b L xs) {z : Zt} (G : Gx z (Ax s) s) {b1 b2 : Nat} (hb1 : s.heap.size ≤ b1) (hb2 : b1 + 339 ≤ b2) {cells slots : Nat} (hcs : cells ≤ 600000 ∧ slots ≤ 7302250) {FU : Nat} {Mx My Mx' My' : Mem} {r : Int32} {x3 : Int32} (hi : ∀ k : Int32, k ∈ ([1, 2, 3, 4, 5] : List Int32) → vp_in (x3 + k) L) (hfx : f11_likely FU (xs (x3 + (1 : Int32)).toNatClampNeg) (xs (x3 + (2 : Int32)).toNatClampNeg) Mx = some (r, Mx')) (hfy : f12_likely FU (xs (x3 + (1 : Int32)).toNatClampNeg) (xs (x3 + (2 : Int32)).toNatClampNeg) My = some (r, My')) {H : Heap} {locs : List Loc} {ls : Array Slot} (hP : va_P z.1 vwCl (pw (xd z b1) 339 b1 Mx) H) (hP2 : va_P z.1 vwCl (pw (yd z b2) 32 b2 My) H) (hS : va_S (Ax s) s.heap H locs) (hl : lv_has ls 4 [(0, .ref b), (1, .ref (b1 + 0)), (2, .ref (b2 + 0)), (3, .int x3)])
    (kk : ∀ (H : Heap) (locs : List Loc) (hP : va_P z.1 vwCl (pw (xd z b1) 339 b1 Mx') H) (hP2 : va_P z.1 vwCl (pw (yd z b2) 32 b2 My') H) (hS : va_S (Ax s) s.heap H locs), W p l e room_1 s m #[Value.ref b] below meth c H locs cells slots (lw_Z below #[Value.ref b] s) (F0 m 974 ls [])) : W p l e room_1 s m #[Value.ref b] below meth c H locs cells slots (lw_Z below #[Value.ref b] s) (F0 m 467 ls []) := by
  obtain ⟨hx, hb, hr, hml, hown, hts, hX, hbl, hlocks, hgv⟩ := id C0
  have CF : CallFix p m c code 4 s #[Value.ref b] lw_good R_law := ⟨hx, hb, hml, hown, fun w hw => hts w (List.mem_filter.mp hw).1⟩
  have hbA : ¬ Ax s b := Nat.not_le.mpr hbl
  refine lv_aload_n hx hb dL_law_467 rfl (lv_at hl 1 rfl) ?_
  refine lv_aload_n hx hb dL_law_468 rfl (lv_at hl 0 rfl) ?_
  refine lv_iload_n hx hb dL_law_469 rfl (lv_at hl 3 rfl) ?_
  refine lv_iconst (v := (1 : Int32)) hx hb dL_law_470 (by decide) ?_
  refine lv_iadd hx hb dL_law_471 ?_
  refine va_sld hx hb hX hbl hbA hS (hi 1 (by decide)) dL_law_472 ?_
  refine lv_aload_n hx hb dL_law_473 rfl (lv_at hl 0 rfl) ?_
  refine lv_iload_n hx hb dL_law_474 rfl (lv_at hl 3 rfl) ?_
  refine lv_iconst (v := (2 : Int32)) hx hb dL_law_475 (by decide) ?_
  refine lv_iadd hx hb dL_law_476 ?_
  refine va_sld hx hb hX hbl hbA hS (hi 2 (by decide)) dL_law_477 ?_
  refine lcV (As := [.int (xs (x3 + (1 : Int32)).toNatClampNeg), .int (xs (x3 + (2 : Int32)).toNatClampNeg)]) CF G hP hP2 hS hb1 (Or.inr hb2) (Nat.le_of_ble_eq_true rfl) (xd_0 _ _) rfl (c11_likely hfx) y11_likely_w g_826 rfl rfl rfl ⟨Nat.le_of_ble_eq_true rfl, Nat.le_of_ble_eq_true rfl⟩ hl.1 rfl (Nat.le_of_ble_eq_true rfl) dL_law_478 hcs (fun H locs hP hP2 hS => ?_)
  refine lv_aload_n hx hb dL_law_481 rfl (lv_at hl 2 rfl) ?_
  refine lv_aload_n hx hb dL_law_482 rfl (lv_at hl 0 rfl) ?_
  refine lv_iload_n hx hb dL_law_483 rfl (lv_at hl 3 rfl) ?_
  refine lv_iconst (v := (1 : Int32)) hx hb dL_law_484 (by decide) ?_
  refine lv_iadd hx hb dL_law_485 ?_
  refine va_sld hx hb hX hbl hbA hS (hi 1 (by decide)) dL_law_486 ?_
  refine lv_aload_n hx hb dL_law_487 rfl (lv_at hl 0 rfl) ?_
  refine lv_iload_n hx hb dL_law_488 rfl (lv_at hl 3 rfl) ?_
  refine lv_iconst (v := (2 : Int32)) hx hb dL_law_489 (by decide) ?_
  refine lv_iadd hx hb dL_law_490 ?_
  refine va_sld hx hb hX hbl hbA hS (hi 2 (by decide)) dL_law_491 ?_
  refine lcV (As := [.int (xs (x3 + (1 : Int32)).toNatClampNeg), .int (xs (x3 + (2 : Int32)).toNatClampNeg)]) CF G hP2 hP hS (Nat.le_trans hb1 (Nat.le_trans (Nat.le_add_right _ _) hb2)) (Or.inl hb2) (Nat.le_of_ble_eq_true rfl) (yd_0 _ _) rfl (c12_likely hfy) y12_likely_w g_1530 rfl rfl rfl ⟨Nat.le_of_ble_eq_true rfl, Nat.le_of_ble_eq_true rfl⟩ hl.1 rfl (Nat.le_of_ble_eq_true rfl) dL_law_492 hcs (fun H locs hP2 hP hS => ?_)
  refine lv_icmp_eq (tgt := 974) hx hb dL_law_495 (by decide) (fun _ => ?_) (fun h => absurd rfl h)
  exact kk H locs hP hP2 hS
set_option maxHeartbeats 4000000 in
set_option maxRecDepth 100000 in
theorem lawc_10 {p : Program} {e : Env} {s : State} {m : MethodId} {below : List Frame} {meth : Method} {c : Code} {l : Launch} {b L : Nat} {xs : Nat → Int32} (hL : L ≤ 3072) (C0 : lw_At p s m meth c b L xs) {z : Zt} (G : Gx z (Ax s) s) {b1 b2 : Nat} (hb1 : s.heap.size ≤ b1) (hb2 : b1 + 339 ≤ b2) {cells slots : Nat} (hcs : cells ≤ 600000 ∧ slots ≤ 7302250) {FU : Nat} {Mx My Mx' My' : Mem} {r : Int32} {x3 : Int32} (hi : ∀ k : Int32, k ∈ ([1, 2, 3, 4, 5] : List Int32) → vp_in (x3 + k) L) (hfx : f11_watch FU (xs (x3 + (1 : Int32)).toNatClampNeg) (xs (x3 + (2 : Int32)).toNatClampNeg) Mx = some (r, Mx')) (hfy : f12_watch FU (xs (x3 + (1 : Int32)).toNatClampNeg) (xs (x3 + (2 : Int32)).toNatClampNeg) My = some (r, My')) {H : Heap} {locs : List Loc} {ls : Array Slot} (hP : va_P z.1 vwCl (pw (xd z b1) 339 b1 Mx) H) (hP2 : va_P z.1 vwCl (pw (yd z b2) 32 b2 My) H) (hS : va_S (Ax s) s.heap H locs) (hl : lv_has ls 4 [(0, .ref b), (1, .ref (b1 + 0)), (2, .ref (b2 + 0)), (3, .int x3)])
    (kk : ∀ (H : Heap) (locs : List Loc) (hP : va_P z.1 vwCl (pw (xd z b1) 339 b1 Mx') H) (hP2 : va_P z.1 vwCl (pw (yd z b2) 32 b2 My') H) (hS : va_S (Ax s) s.heap H locs), W p l e room_1 s m #[Value.ref b] below meth c H locs cells slots (lw_Z below #[Value.ref b] s) (F0 m 974 ls [])) : W p l e room_1 s m #[Value.ref b] below meth c H locs cells slots (lw_Z below #[Value.ref b] s) (F0 m 500 ls []) := by
  obtain ⟨hx, hb, hr, hml, hown, hts, hX, hbl, hlocks, hgv⟩ := id C0
  have CF : CallFix p m c code 4 s #[Value.ref b] lw_good R_law := ⟨hx, hb, hml, hown, fun w hw => hts w (List.mem_filter.mp hw).1⟩
  have hbA : ¬ Ax s b := Nat.not_le.mpr hbl
  refine lv_aload_n hx hb dL_law_500 rfl (lv_at hl 1 rfl) ?_
  refine lv_aload_n hx hb dL_law_501 rfl (lv_at hl 0 rfl) ?_
  refine lv_iload_n hx hb dL_law_502 rfl (lv_at hl 3 rfl) ?_
  refine lv_iconst (v := (1 : Int32)) hx hb dL_law_503 (by decide) ?_
  refine lv_iadd hx hb dL_law_504 ?_
  refine va_sld hx hb hX hbl hbA hS (hi 1 (by decide)) dL_law_505 ?_
  refine lv_aload_n hx hb dL_law_506 rfl (lv_at hl 0 rfl) ?_
  refine lv_iload_n hx hb dL_law_507 rfl (lv_at hl 3 rfl) ?_
  refine lv_iconst (v := (2 : Int32)) hx hb dL_law_508 (by decide) ?_
  refine lv_iadd hx hb dL_law_509 ?_
  refine va_sld hx hb hX hbl hbA hS (hi 2 (by decide)) dL_law_510 ?_
  refine lcV (As := [.int (xs (x3 + (1 : Int32)).toNatClampNeg), .int (xs (x3 + (2 : Int32)).toNatClampNeg)]) CF G hP hP2 hS hb1 (Or.inr hb2) (Nat.le_of_ble_eq_true rfl) (xd_0 _ _) rfl (c11_watch hfx) y11_watch_w g_843 rfl rfl rfl ⟨Nat.le_of_ble_eq_true rfl, Nat.le_of_ble_eq_true rfl⟩ hl.1 rfl (Nat.le_of_ble_eq_true rfl) dL_law_511 hcs (fun H locs hP hP2 hS => ?_)
  refine lv_aload_n hx hb dL_law_514 rfl (lv_at hl 2 rfl) ?_
  refine lv_aload_n hx hb dL_law_515 rfl (lv_at hl 0 rfl) ?_
  refine lv_iload_n hx hb dL_law_516 rfl (lv_at hl 3 rfl) ?_
  refine lv_iconst (v := (1 : Int32)) hx hb dL_law_517 (by decide) ?_
  refine lv_iadd hx hb dL_law_518 ?_
  refine va_sld hx hb hX hbl hbA hS (hi 1 (by decide)) dL_law_519 ?_
  refine lv_aload_n hx hb dL_law_520 rfl (lv_at hl 0 rfl) ?_
  refine lv_iload_n hx hb dL_law_521 rfl (lv_at hl 3 rfl) ?_
  refine lv_iconst (v := (2 : Int32)) hx hb dL_law_522 (by decide) ?_
  refine lv_iadd hx hb dL_law_523 ?_
  refine va_sld hx hb hX hbl hbA hS (hi 2 (by decide)) dL_law_524 ?_
  refine lcV (As := [.int (xs (x3 + (1 : Int32)).toNatClampNeg), .int (xs (x3 + (2 : Int32)).toNatClampNeg)]) CF G hP2 hP hS (Nat.le_trans hb1 (Nat.le_trans (Nat.le_add_right _ _) hb2)) (Or.inl hb2) (Nat.le_of_ble_eq_true rfl) (yd_0 _ _) rfl (c12_watch hfy) y12_watch_w g_1548 rfl rfl rfl ⟨Nat.le_of_ble_eq_true rfl, Nat.le_of_ble_eq_true rfl⟩ hl.1 rfl (Nat.le_of_ble_eq_true rfl) dL_law_525 hcs (fun H locs hP2 hP hS => ?_)
  refine lv_icmp_eq (tgt := 974) hx hb dL_law_528 (by decide) (fun _ => ?_) (fun h => absurd rfl h)
  exact kk H locs hP hP2 hS
set_option maxHeartbeats 4000000 in
set_option maxRecDepth 100000 in
theorem lawc_11 {p : Program} {e : Env} {s : State} {m : MethodId} {below : List Frame} {meth : Method} {c : Code} {l : Launch} {b L : Nat} {xs : Nat → Int32} (hL : L ≤ 3072) (C0 : lw_At p s m meth c b L xs) {z : Zt} (G : Gx z (Ax s) s) {b1 b2 : Nat} (hb1 : s.heap.size ≤ b1) (hb2 : b1 + 339 ≤ b2) {cells slots : Nat} (hcs : cells ≤ 600000 ∧ slots ≤ 7302250) {FU : Nat} {Mx My Mx' My' : Mem} {r : Int32} {x3 : Int32} (hi : ∀ k : Int32, k ∈ ([1, 2, 3, 4, 5] : List Int32) → vp_in (x3 + k) L) (hfx : f11_sure FU (xs (x3 + (1 : Int32)).toNatClampNeg) Mx = some (r, Mx')) (hfy : f12_sure FU (xs (x3 + (1 : Int32)).toNatClampNeg) My = some (r, My')) {H : Heap} {locs : List Loc} {ls : Array Slot} (hP : va_P z.1 vwCl (pw (xd z b1) 339 b1 Mx) H) (hP2 : va_P z.1 vwCl (pw (yd z b2) 32 b2 My) H) (hS : va_S (Ax s) s.heap H locs) (hl : lv_has ls 4 [(0, .ref b), (1, .ref (b1 + 0)), (2, .ref (b2 + 0)), (3, .int x3)])
    (kk : ∀ (H : Heap) (locs : List Loc) (hP : va_P z.1 vwCl (pw (xd z b1) 339 b1 Mx') H) (hP2 : va_P z.1 vwCl (pw (yd z b2) 32 b2 My') H) (hS : va_S (Ax s) s.heap H locs), W p l e room_1 s m #[Value.ref b] below meth c H locs cells slots (lw_Z below #[Value.ref b] s) (F0 m 974 ls [])) : W p l e room_1 s m #[Value.ref b] below meth c H locs cells slots (lw_Z below #[Value.ref b] s) (F0 m 533 ls []) := by
  obtain ⟨hx, hb, hr, hml, hown, hts, hX, hbl, hlocks, hgv⟩ := id C0
  have CF : CallFix p m c code 4 s #[Value.ref b] lw_good R_law := ⟨hx, hb, hml, hown, fun w hw => hts w (List.mem_filter.mp hw).1⟩
  have hbA : ¬ Ax s b := Nat.not_le.mpr hbl
  refine lv_aload_n hx hb dL_law_533 rfl (lv_at hl 1 rfl) ?_
  refine lv_aload_n hx hb dL_law_534 rfl (lv_at hl 0 rfl) ?_
  refine lv_iload_n hx hb dL_law_535 rfl (lv_at hl 3 rfl) ?_
  refine lv_iconst (v := (1 : Int32)) hx hb dL_law_536 (by decide) ?_
  refine lv_iadd hx hb dL_law_537 ?_
  refine va_sld hx hb hX hbl hbA hS (hi 1 (by decide)) dL_law_538 ?_
  refine lcV (As := [.int (xs (x3 + (1 : Int32)).toNatClampNeg)]) CF G hP hP2 hS hb1 (Or.inr hb2) (Nat.le_of_ble_eq_true rfl) (xd_0 _ _) rfl (c11_sure hfx) y11_sure_w g_851 rfl rfl rfl ⟨Nat.le_of_ble_eq_true rfl, Nat.le_of_ble_eq_true rfl⟩ hl.1 rfl (Nat.le_of_ble_eq_true rfl) dL_law_539 hcs (fun H locs hP hP2 hS => ?_)
  refine lv_aload_n hx hb dL_law_542 rfl (lv_at hl 2 rfl) ?_
  refine lv_aload_n hx hb dL_law_543 rfl (lv_at hl 0 rfl) ?_
  refine lv_iload_n hx hb dL_law_544 rfl (lv_at hl 3 rfl) ?_
  refine lv_iconst (v := (1 : Int32)) hx hb dL_law_545 (by decide) ?_
  refine lv_iadd hx hb dL_law_546 ?_
  refine va_sld hx hb hX hbl hbA hS (hi 1 (by decide)) dL_law_547 ?_
  refine lcV (As := [.int (xs (x3 + (1 : Int32)).toNatClampNeg)]) CF G hP2 hP hS (Nat.le_trans hb1 (Nat.le_trans (Nat.le_add_right _ _) hb2)) (Or.inl hb2) (Nat.le_of_ble_eq_true rfl) (yd_0 _ _) rfl (c12_sure hfy) y12_sure_w g_1556 rfl rfl rfl ⟨Nat.le_of_ble_eq_true rfl, Nat.le_of_ble_eq_true rfl⟩ hl.1 rfl (Nat.le_of_ble_eq_true rfl) dL_law_548 hcs (fun H locs hP2 hP hS => ?_)
  refine lv_icmp_eq (tgt := 974) hx hb dL_law_551 (by decide) (fun _ => ?_) (fun h => absurd rfl h)
  exact kk H locs hP hP2 hS
set_option maxHeartbeats 4000000 in
set_option maxRecDepth 100000 in
theorem lawc_12 {p : Program} {e : Env} {s : State} {m : MethodId} {below : List Frame} {meth : Method} {c : Code} {l : Launch} {b L : Nat} {xs : Nat → Int32} (hL : L ≤ 3072) (C0 : lw_At p s m meth c b L xs) {z : Zt} (G : Gx z (Ax s) s) {b1 b2 : Nat} (hb1 : s.heap.size ≤ b1) (hb2 : b1 + 339 ≤ b2) {cells slots : Nat} (hcs : cells ≤ 600000 ∧ slots ≤ 7302250) {FU : Nat} {Mx My Mx' My' : Mem} {r : Int32} {x3 : Int32} (hi : ∀ k : Int32, k ∈ ([1, 2, 3, 4, 5] : List Int32) → vp_in (x3 + k) L) (hfx : f11_walk FU (xs (x3 + (1 : Int32)).toNatClampNeg) Mx = some (r, Mx')) (hfy : f12_walk FU (xs (x3 + (1 : Int32)).toNatClampNeg) My = some (r, My')) {H : Heap} {locs : List Loc} {ls : Array Slot} (hP : va_P z.1 vwCl (pw (xd z b1) 339 b1 Mx) H) (hP2 : va_P z.1 vwCl (pw (yd z b2) 32 b2 My) H) (hS : va_S (Ax s) s.heap H locs) (hl : lv_has ls 4 [(0, .ref b), (1, .ref (b1 + 0)), (2, .ref (b2 + 0)), (3, .int x3)])
    (kk : ∀ (H : Heap) (locs : List Loc) (hP : va_P z.1 vwCl (pw (xd z b1) 339 b1 Mx') H) (hP2 : va_P z.1 vwCl (pw (yd z b2) 32 b2 My') H) (hS : va_S (Ax s) s.heap H locs), W p l e room_1 s m #[Value.ref b] below meth c H locs cells slots (lw_Z below #[Value.ref b] s) (F0 m 974 ls [])) : W p l e room_1 s m #[Value.ref b] below meth c H locs cells slots (lw_Z below #[Value.ref b] s) (F0 m 556 ls []) := by
  obtain ⟨hx, hb, hr, hml, hown, hts, hX, hbl, hlocks, hgv⟩ := id C0
  have CF : CallFix p m c code 4 s #[Value.ref b] lw_good R_law := ⟨hx, hb, hml, hown, fun w hw => hts w (List.mem_filter.mp hw).1⟩
  have hbA : ¬ Ax s b := Nat.not_le.mpr hbl
  refine lv_aload_n hx hb dL_law_556 rfl (lv_at hl 1 rfl) ?_
  refine lv_aload_n hx hb dL_law_557 rfl (lv_at hl 0 rfl) ?_
  refine lv_iload_n hx hb dL_law_558 rfl (lv_at hl 3 rfl) ?_
  refine lv_iconst (v := (1 : Int32)) hx hb dL_law_559 (by decide) ?_
  refine lv_iadd hx hb dL_law_560 ?_
  refine va_sld hx hb hX hbl hbA hS (hi 1 (by decide)) dL_law_561 ?_
  refine lcV (As := [.int (xs (x3 + (1 : Int32)).toNatClampNeg)]) CF G hP hP2 hS hb1 (Or.inr hb2) (Nat.le_of_ble_eq_true rfl) (xd_0 _ _) rfl (c11_walk hfx) y11_walk_w g_855 rfl rfl rfl ⟨Nat.le_of_ble_eq_true rfl, Nat.le_of_ble_eq_true rfl⟩ hl.1 rfl (Nat.le_of_ble_eq_true rfl) dL_law_562 hcs (fun H locs hP hP2 hS => ?_)
  refine lv_aload_n hx hb dL_law_565 rfl (lv_at hl 2 rfl) ?_
  refine lv_aload_n hx hb dL_law_566 rfl (lv_at hl 0 rfl) ?_
  refine lv_iload_n hx hb dL_law_567 rfl (lv_at hl 3 rfl) ?_
  refine lv_iconst (v := (1 : Int32)) hx hb dL_law_568 (by decide) ?_
  refine lv_iadd hx hb dL_law_569 ?_
  refine va_sld hx hb hX hbl hbA hS (hi 1 (by decide)) dL_law_570 ?_
  refine lcV (As := [.int (xs (x3 + (1 : Int32)).toNatClampNeg)]) CF G hP2 hP hS (Nat.le_trans hb1 (Nat.le_trans (Nat.le_add_right _ _) hb2)) (Or.inl hb2) (Nat.le_of_ble_eq_true rfl) (yd_0 _ _) rfl (c12_walk hfy) y12_walk_w g_1560 rfl rfl rfl ⟨Nat.le_of_ble_eq_true rfl, Nat.le_of_ble_eq_true rfl⟩ hl.1 rfl (Nat.le_of_ble_eq_true rfl) dL_law_571 hcs (fun H locs hP2 hP hS => ?_)
  refine lv_icmp_eq (tgt := 974) hx hb dL_law_574 (by decide) (fun _ => ?_) (fun h => absurd rfl h)
  exact kk H locs hP hP2 hS
set_option maxHeartbeats 4000000 in
set_option maxRecDepth 100000 in
theorem lawc_13 {p : Program} {e : Env} {s : State} {m : MethodId} {below : List Frame} {meth : Method} {c : Code} {l : Launch} {b L : Nat} {xs : Nat → Int32} (hL : L ≤ 3072) (C0 : lw_At p s m meth c b L xs) {z : Zt} (G : Gx z (Ax s) s) {b1 b2 : Nat} (hb1 : s.heap.size ≤ b1) (hb2 : b1 + 339 ≤ b2) {cells slots : Nat} (hcs : cells ≤ 600000 ∧ slots ≤ 7302250) {FU : Nat} {Mx My Mx' My' : Mem} {r : Int32} {x3 : Int32} (hi : ∀ k : Int32, k ∈ ([1, 2, 3, 4, 5] : List Int32) → vp_in (x3 + k) L) (hfx : f11_worn FU  Mx = some (r, Mx')) (hfy : f12_worn FU  My = some (r, My')) {H : Heap} {locs : List Loc} {ls : Array Slot} (hP : va_P z.1 vwCl (pw (xd z b1) 339 b1 Mx) H) (hP2 : va_P z.1 vwCl (pw (yd z b2) 32 b2 My) H) (hS : va_S (Ax s) s.heap H locs) (hl : lv_has ls 4 [(0, .ref b), (1, .ref (b1 + 0)), (2, .ref (b2 + 0)), (3, .int x3)])
    (kk : ∀ (H : Heap) (locs : List Loc) (hP : va_P z.1 vwCl (pw (xd z b1) 339 b1 Mx') H) (hP2 : va_P z.1 vwCl (pw (yd z b2) 32 b2 My') H) (hS : va_S (Ax s) s.heap H locs), W p l e room_1 s m #[Value.ref b] below meth c H locs cells slots (lw_Z below #[Value.ref b] s) (F0 m 974 ls [])) : W p l e room_1 s m #[Value.ref b] below meth c H locs cells slots (lw_Z below #[Value.ref b] s) (F0 m 579 ls []) := by
  obtain ⟨hx, hb, hr, hml, hown, hts, hX, hbl, hlocks, hgv⟩ := id C0
  have CF : CallFix p m c code 4 s #[Value.ref b] lw_good R_law := ⟨hx, hb, hml, hown, fun w hw => hts w (List.mem_filter.mp hw).1⟩
  have hbA : ¬ Ax s b := Nat.not_le.mpr hbl
  refine lv_aload_n hx hb dL_law_579 rfl (lv_at hl 1 rfl) ?_
  refine lcV (As := []) CF G hP hP2 hS hb1 (Or.inr hb2) (Nat.le_of_ble_eq_true rfl) (xd_0 _ _) rfl (c11_worn hfx) y11_worn_w g_859 rfl rfl rfl ⟨Nat.le_of_ble_eq_true rfl, Nat.le_of_ble_eq_true rfl⟩ hl.1 rfl (Nat.le_of_ble_eq_true rfl) dL_law_580 hcs (fun H locs hP hP2 hS => ?_)
  refine lv_aload_n hx hb dL_law_583 rfl (lv_at hl 2 rfl) ?_
  refine lcV (As := []) CF G hP2 hP hS (Nat.le_trans hb1 (Nat.le_trans (Nat.le_add_right _ _) hb2)) (Or.inl hb2) (Nat.le_of_ble_eq_true rfl) (yd_0 _ _) rfl (c12_worn hfy) y12_worn_w g_1564 rfl rfl rfl ⟨Nat.le_of_ble_eq_true rfl, Nat.le_of_ble_eq_true rfl⟩ hl.1 rfl (Nat.le_of_ble_eq_true rfl) dL_law_584 hcs (fun H locs hP2 hP hS => ?_)
  refine lv_icmp_eq (tgt := 974) hx hb dL_law_587 (by decide) (fun _ => ?_) (fun h => absurd rfl h)
  exact kk H locs hP hP2 hS
set_option maxHeartbeats 4000000 in
set_option maxRecDepth 100000 in
theorem lawc_14 {p : Program} {e : Env} {s : State} {m : MethodId} {below : List Frame} {meth : Method} {c : Code} {l : Launch} {b L : Nat} {xs : Nat → Int32} (hL : L ≤ 3072) (C0 : lw_At p s m meth c b L xs) {z : Zt} (G : Gx z (Ax s) s) {b1 b2 : Nat} (hb1 : s.heap.size ≤ b1) (hb2 : b1 + 339 ≤ b2) {cells slots : Nat} (hcs : cells ≤ 600000 ∧ slots ≤ 7302250) {FU : Nat} {Mx My Mx' My' : Mem} {r : Int32} {x3 : Int32} (hi : ∀ k : Int32, k ∈ ([1, 2, 3, 4, 5] : List Int32) → vp_in (x3 + k) L) (hfx : f11_far FU (xs (x3 + (1 : Int32)).toNatClampNeg) Mx = some (r, Mx')) (hfy : f12_far FU (xs (x3 + (1 : Int32)).toNatClampNeg) My = some (r, My')) {H : Heap} {locs : List Loc} {ls : Array Slot} (hP : va_P z.1 vwCl (pw (xd z b1) 339 b1 Mx) H) (hP2 : va_P z.1 vwCl (pw (yd z b2) 32 b2 My) H) (hS : va_S (Ax s) s.heap H locs) (hl : lv_has ls 4 [(0, .ref b), (1, .ref (b1 + 0)), (2, .ref (b2 + 0)), (3, .int x3)])
    (kk : ∀ (H : Heap) (locs : List Loc) (hP : va_P z.1 vwCl (pw (xd z b1) 339 b1 Mx') H) (hP2 : va_P z.1 vwCl (pw (yd z b2) 32 b2 My') H) (hS : va_S (Ax s) s.heap H locs), W p l e room_1 s m #[Value.ref b] below meth c H locs cells slots (lw_Z below #[Value.ref b] s) (F0 m 974 ls [])) : W p l e room_1 s m #[Value.ref b] below meth c H locs cells slots (lw_Z below #[Value.ref b] s) (F0 m 592 ls []) := by
  obtain ⟨hx, hb, hr, hml, hown, hts, hX, hbl, hlocks, hgv⟩ := id C0
  have CF : CallFix p m c code 4 s #[Value.ref b] lw_good R_law := ⟨hx, hb, hml, hown, fun w hw => hts w (List.mem_filter.mp hw).1⟩
  have hbA : ¬ Ax s b := Nat.not_le.mpr hbl
  refine lv_aload_n hx hb dL_law_592 rfl (lv_at hl 1 rfl) ?_
  refine lv_aload_n hx hb dL_law_593 rfl (lv_at hl 0 rfl) ?_
  refine lv_iload_n hx hb dL_law_594 rfl (lv_at hl 3 rfl) ?_
  refine lv_iconst (v := (1 : Int32)) hx hb dL_law_595 (by decide) ?_
  refine lv_iadd hx hb dL_law_596 ?_
  refine va_sld hx hb hX hbl hbA hS (hi 1 (by decide)) dL_law_597 ?_
  refine lcV (As := [.int (xs (x3 + (1 : Int32)).toNatClampNeg)]) CF G hP hP2 hS hb1 (Or.inr hb2) (Nat.le_of_ble_eq_true rfl) (xd_0 _ _) rfl (c11_far hfx) y11_far_w g_863 rfl rfl rfl ⟨Nat.le_of_ble_eq_true rfl, Nat.le_of_ble_eq_true rfl⟩ hl.1 rfl (Nat.le_of_ble_eq_true rfl) dL_law_598 hcs (fun H locs hP hP2 hS => ?_)
  refine lv_aload_n hx hb dL_law_601 rfl (lv_at hl 2 rfl) ?_
  refine lv_aload_n hx hb dL_law_602 rfl (lv_at hl 0 rfl) ?_
  refine lv_iload_n hx hb dL_law_603 rfl (lv_at hl 3 rfl) ?_
  refine lv_iconst (v := (1 : Int32)) hx hb dL_law_604 (by decide) ?_
  refine lv_iadd hx hb dL_law_605 ?_
  refine va_sld hx hb hX hbl hbA hS (hi 1 (by decide)) dL_law_606 ?_
  refine lcV (As := [.int (xs (x3 + (1 : Int32)).toNatClampNeg)]) CF G hP2 hP hS (Nat.le_trans hb1 (Nat.le_trans (Nat.le_add_right _ _) hb2)) (Or.inl hb2) (Nat.le_of_ble_eq_true rfl) (yd_0 _ _) rfl (c12_far hfy) y12_far_w g_1568 rfl rfl rfl ⟨Nat.le_of_ble_eq_true rfl, Nat.le_of_ble_eq_true rfl⟩ hl.1 rfl (Nat.le_of_ble_eq_true rfl) dL_law_607 hcs (fun H locs hP2 hP hS => ?_)
  refine lv_icmp_eq (tgt := 974) hx hb dL_law_610 (by decide) (fun _ => ?_) (fun h => absurd rfl h)
  exact kk H locs hP hP2 hS
set_option maxHeartbeats 4000000 in
set_option maxRecDepth 100000 in
theorem lawc_15 {p : Program} {e : Env} {s : State} {m : MethodId} {below : List Frame} {meth : Method} {c : Code} {l : Launch} {b L : Nat} {xs : Nat → Int32} (hL : L ≤ 3072) (C0 : lw_At p s m meth c b L xs) {z : Zt} (G : Gx z (Ax s) s) {b1 b2 : Nat} (hb1 : s.heap.size ≤ b1) (hb2 : b1 + 339 ≤ b2) {cells slots : Nat} (hcs : cells ≤ 600000 ∧ slots ≤ 7302250) {FU : Nat} {Mx My Mx' My' : Mem} {r : Int32} {x3 : Int32} (hi : ∀ k : Int32, k ∈ ([1, 2, 3, 4, 5] : List Int32) → vp_in (x3 + k) L) (hfx : f11_calls FU (xs (x3 + (1 : Int32)).toNatClampNeg) (xs (x3 + (2 : Int32)).toNatClampNeg) Mx = some (r, Mx')) (hfy : f12_calls FU (xs (x3 + (1 : Int32)).toNatClampNeg) (xs (x3 + (2 : Int32)).toNatClampNeg) My = some (r, My')) {H : Heap} {locs : List Loc} {ls : Array Slot} (hP : va_P z.1 vwCl (pw (xd z b1) 339 b1 Mx) H) (hP2 : va_P z.1 vwCl (pw (yd z b2) 32 b2 My) H) (hS : va_S (Ax s) s.heap H locs) (hl : lv_has ls 4 [(0, .ref b), (1, .ref (b1 + 0)), (2, .ref (b2 + 0)), (3, .int x3)])
    (kk : ∀ (H : Heap) (locs : List Loc) (hP : va_P z.1 vwCl (pw (xd z b1) 339 b1 Mx') H) (hP2 : va_P z.1 vwCl (pw (yd z b2) 32 b2 My') H) (hS : va_S (Ax s) s.heap H locs), W p l e room_1 s m #[Value.ref b] below meth c H locs cells slots (lw_Z below #[Value.ref b] s) (F0 m 974 ls [])) : W p l e room_1 s m #[Value.ref b] below meth c H locs cells slots (lw_Z below #[Value.ref b] s) (F0 m 615 ls []) := by
  obtain ⟨hx, hb, hr, hml, hown, hts, hX, hbl, hlocks, hgv⟩ := id C0
  have CF : CallFix p m c code 4 s #[Value.ref b] lw_good R_law := ⟨hx, hb, hml, hown, fun w hw => hts w (List.mem_filter.mp hw).1⟩
  have hbA : ¬ Ax s b := Nat.not_le.mpr hbl
  refine lv_aload_n hx hb dL_law_615 rfl (lv_at hl 1 rfl) ?_
  refine lv_aload_n hx hb dL_law_616 rfl (lv_at hl 0 rfl) ?_
  refine lv_iload_n hx hb dL_law_617 rfl (lv_at hl 3 rfl) ?_
  refine lv_iconst (v := (1 : Int32)) hx hb dL_law_618 (by decide) ?_
  refine lv_iadd hx hb dL_law_619 ?_
  refine va_sld hx hb hX hbl hbA hS (hi 1 (by decide)) dL_law_620 ?_
  refine lv_aload_n hx hb dL_law_621 rfl (lv_at hl 0 rfl) ?_
  refine lv_iload_n hx hb dL_law_622 rfl (lv_at hl 3 rfl) ?_
  refine lv_iconst (v := (2 : Int32)) hx hb dL_law_623 (by decide) ?_
  refine lv_iadd hx hb dL_law_624 ?_
  refine va_sld hx hb hX hbl hbA hS (hi 2 (by decide)) dL_law_625 ?_
  refine lcV (As := [.int (xs (x3 + (1 : Int32)).toNatClampNeg), .int (xs (x3 + (2 : Int32)).toNatClampNeg)]) CF G hP hP2 hS hb1 (Or.inr hb2) (Nat.le_of_ble_eq_true rfl) (xd_0 _ _) rfl (c11_calls hfx) y11_calls_w g_868 rfl rfl rfl ⟨Nat.le_of_ble_eq_true rfl, Nat.le_of_ble_eq_true rfl⟩ hl.1 rfl (Nat.le_of_ble_eq_true rfl) dL_law_626 hcs (fun H locs hP hP2 hS => ?_)
  refine lv_aload_n hx hb dL_law_629 rfl (lv_at hl 2 rfl) ?_
  refine lv_aload_n hx hb dL_law_630 rfl (lv_at hl 0 rfl) ?_
  refine lv_iload_n hx hb dL_law_631 rfl (lv_at hl 3 rfl) ?_
  refine lv_iconst (v := (1 : Int32)) hx hb dL_law_632 (by decide) ?_
  refine lv_iadd hx hb dL_law_633 ?_
  refine va_sld hx hb hX hbl hbA hS (hi 1 (by decide)) dL_law_634 ?_
  refine lv_aload_n hx hb dL_law_635 rfl (lv_at hl 0 rfl) ?_
  refine lv_iload_n hx hb dL_law_636 rfl (lv_at hl 3 rfl) ?_
  refine lv_iconst (v := (2 : Int32)) hx hb dL_law_637 (by decide) ?_
  refine lv_iadd hx hb dL_law_638 ?_
  refine va_sld hx hb hX hbl hbA hS (hi 2 (by decide)) dL_law_639 ?_
  refine lcV (As := [.int (xs (x3 + (1 : Int32)).toNatClampNeg), .int (xs (x3 + (2 : Int32)).toNatClampNeg)]) CF G hP2 hP hS (Nat.le_trans hb1 (Nat.le_trans (Nat.le_add_right _ _) hb2)) (Or.inl hb2) (Nat.le_of_ble_eq_true rfl) (yd_0 _ _) rfl (c12_calls hfy) y12_calls_w g_1572 rfl rfl rfl ⟨Nat.le_of_ble_eq_true rfl, Nat.le_of_ble_eq_true rfl⟩ hl.1 rfl (Nat.le_of_ble_eq_true rfl) dL_law_640 hcs (fun H locs hP2 hP hS => ?_)
  refine lv_icmp_eq (tgt := 974) hx hb dL_law_643 (by decide) (fun _ => ?_) (fun h => absurd rfl h)
  exact kk H locs hP hP2 hS
set_option maxHeartbeats 4000000 in
set_option maxRecDepth 100000 in
theorem lawc_16 {p : Program} {e : Env} {s : State} {m : MethodId} {below : List Frame} {meth : Method} {c : Code} {l : Launch} {b L : Nat} {xs : Nat → Int32} (hL : L ≤ 3072) (C0 : lw_At p s m meth c b L xs) {z : Zt} (G : Gx z (Ax s) s) {b1 b2 : Nat} (hb1 : s.heap.size ≤ b1) (hb2 : b1 + 339 ≤ b2) {cells slots : Nat} (hcs : cells ≤ 600000 ∧ slots ≤ 7302250) {FU : Nat} {Mx My Mx' My' : Mem} {r : Int32} {x3 : Int32} (hi : ∀ k : Int32, k ∈ ([1, 2, 3, 4, 5] : List Int32) → vp_in (x3 + k) L) (hfx : f11_old FU (xs (x3 + (1 : Int32)).toNatClampNeg) (xs (x3 + (2 : Int32)).toNatClampNeg) Mx = some (r, Mx')) (hfy : f12_old FU (xs (x3 + (1 : Int32)).toNatClampNeg) (xs (x3 + (2 : Int32)).toNatClampNeg) My = some (r, My')) {H : Heap} {locs : List Loc} {ls : Array Slot} (hP : va_P z.1 vwCl (pw (xd z b1) 339 b1 Mx) H) (hP2 : va_P z.1 vwCl (pw (yd z b2) 32 b2 My) H) (hS : va_S (Ax s) s.heap H locs) (hl : lv_has ls 4 [(0, .ref b), (1, .ref (b1 + 0)), (2, .ref (b2 + 0)), (3, .int x3)])
    (kk : ∀ (H : Heap) (locs : List Loc) (hP : va_P z.1 vwCl (pw (xd z b1) 339 b1 Mx') H) (hP2 : va_P z.1 vwCl (pw (yd z b2) 32 b2 My') H) (hS : va_S (Ax s) s.heap H locs), W p l e room_1 s m #[Value.ref b] below meth c H locs cells slots (lw_Z below #[Value.ref b] s) (F0 m 974 ls [])) : W p l e room_1 s m #[Value.ref b] below meth c H locs cells slots (lw_Z below #[Value.ref b] s) (F0 m 648 ls []) := by
  obtain ⟨hx, hb, hr, hml, hown, hts, hX, hbl, hlocks, hgv⟩ := id C0
  have CF : CallFix p m c code 4 s #[Value.ref b] lw_good R_law := ⟨hx, hb, hml, hown, fun w hw => hts w (List.mem_filter.mp hw).1⟩
  have hbA : ¬ Ax s b := Nat.not_le.mpr hbl
  refine lv_aload_n hx hb dL_law_648 rfl (lv_at hl 1 rfl) ?_
  refine lv_aload_n hx hb dL_law_649 rfl (lv_at hl 0 rfl) ?_
  refine lv_iload_n hx hb dL_law_650 rfl (lv_at hl 3 rfl) ?_
  refine lv_iconst (v := (1 : Int32)) hx hb dL_law_651 (by decide) ?_
  refine lv_iadd hx hb dL_law_652 ?_
  refine va_sld hx hb hX hbl hbA hS (hi 1 (by decide)) dL_law_653 ?_
  refine lv_aload_n hx hb dL_law_654 rfl (lv_at hl 0 rfl) ?_
  refine lv_iload_n hx hb dL_law_655 rfl (lv_at hl 3 rfl) ?_
  refine lv_iconst (v := (2 : Int32)) hx hb dL_law_656 (by decide) ?_
  refine lv_iadd hx hb dL_law_657 ?_
  refine va_sld hx hb hX hbl hbA hS (hi 2 (by decide)) dL_law_658 ?_
  refine lcV (As := [.int (xs (x3 + (1 : Int32)).toNatClampNeg), .int (xs (x3 + (2 : Int32)).toNatClampNeg)]) CF G hP hP2 hS hb1 (Or.inr hb2) (Nat.le_of_ble_eq_true rfl) (xd_0 _ _) rfl (c11_old hfx) y11_old_w g_913 rfl rfl rfl ⟨Nat.le_of_ble_eq_true rfl, Nat.le_of_ble_eq_true rfl⟩ hl.1 rfl (Nat.le_of_ble_eq_true rfl) dL_law_659 hcs (fun H locs hP hP2 hS => ?_)
  refine lv_aload_n hx hb dL_law_662 rfl (lv_at hl 2 rfl) ?_
  refine lv_aload_n hx hb dL_law_663 rfl (lv_at hl 0 rfl) ?_
  refine lv_iload_n hx hb dL_law_664 rfl (lv_at hl 3 rfl) ?_
  refine lv_iconst (v := (1 : Int32)) hx hb dL_law_665 (by decide) ?_
  refine lv_iadd hx hb dL_law_666 ?_
  refine va_sld hx hb hX hbl hbA hS (hi 1 (by decide)) dL_law_667 ?_
  refine lv_aload_n hx hb dL_law_668 rfl (lv_at hl 0 rfl) ?_
  refine lv_iload_n hx hb dL_law_669 rfl (lv_at hl 3 rfl) ?_
  refine lv_iconst (v := (2 : Int32)) hx hb dL_law_670 (by decide) ?_
  refine lv_iadd hx hb dL_law_671 ?_
  refine va_sld hx hb hX hbl hbA hS (hi 2 (by decide)) dL_law_672 ?_
  refine lcV (As := [.int (xs (x3 + (1 : Int32)).toNatClampNeg), .int (xs (x3 + (2 : Int32)).toNatClampNeg)]) CF G hP2 hP hS (Nat.le_trans hb1 (Nat.le_trans (Nat.le_add_right _ _) hb2)) (Or.inl hb2) (Nat.le_of_ble_eq_true rfl) (yd_0 _ _) rfl (c12_old hfy) y12_old_w g_1601 rfl rfl rfl ⟨Nat.le_of_ble_eq_true rfl, Nat.le_of_ble_eq_true rfl⟩ hl.1 rfl (Nat.le_of_ble_eq_true rfl) dL_law_673 hcs (fun H locs hP2 hP hS => ?_)
  refine lv_icmp_eq (tgt := 974) hx hb dL_law_676 (by decide) (fun _ => ?_) (fun h => absurd rfl h)
  exact kk H locs hP hP2 hS
set_option maxHeartbeats 4000000 in
set_option maxRecDepth 100000 in
theorem lawc_17 {p : Program} {e : Env} {s : State} {m : MethodId} {below : List Frame} {meth : Method} {c : Code} {l : Launch} {b L : Nat} {xs : Nat → Int32} (hL : L ≤ 3072) (C0 : lw_At p s m meth c b L xs) {z : Zt} (G : Gx z (Ax s) s) {b1 b2 : Nat} (hb1 : s.heap.size ≤ b1) (hb2 : b1 + 339 ≤ b2) {cells slots : Nat} (hcs : cells ≤ 600000 ∧ slots ≤ 7302250) {FU : Nat} {Mx My Mx' My' : Mem} {r : Int32} {x3 : Int32} (hi : ∀ k : Int32, k ∈ ([1, 2, 3, 4, 5] : List Int32) → vp_in (x3 + k) L) (hfx : f11_barred FU (xs (x3 + (1 : Int32)).toNatClampNeg) (xs (x3 + (2 : Int32)).toNatClampNeg) (xs (x3 + (3 : Int32)).toNatClampNeg) Mx = some (r, Mx')) (hfy : f12_barred FU (xs (x3 + (1 : Int32)).toNatClampNeg) (xs (x3 + (2 : Int32)).toNatClampNeg) (xs (x3 + (3 : Int32)).toNatClampNeg) My = some (r, My')) {H : Heap} {locs : List Loc} {ls : Array Slot} (hP : va_P z.1 vwCl (pw (xd z b1) 339 b1 Mx) H) (hP2 : va_P z.1 vwCl (pw (yd z b2) 32 b2 My) H) (hS : va_S (Ax s) s.heap H locs) (hl : lv_has ls 4 [(0, .ref b), (1, .ref (b1 + 0)), (2, .ref (b2 + 0)), (3, .int x3)])
    (kk : ∀ (H : Heap) (locs : List Loc) (hP : va_P z.1 vwCl (pw (xd z b1) 339 b1 Mx') H) (hP2 : va_P z.1 vwCl (pw (yd z b2) 32 b2 My') H) (hS : va_S (Ax s) s.heap H locs), W p l e room_1 s m #[Value.ref b] below meth c H locs cells slots (lw_Z below #[Value.ref b] s) (F0 m 974 ls [])) : W p l e room_1 s m #[Value.ref b] below meth c H locs cells slots (lw_Z below #[Value.ref b] s) (F0 m 681 ls []) := by
  obtain ⟨hx, hb, hr, hml, hown, hts, hX, hbl, hlocks, hgv⟩ := id C0
  have CF : CallFix p m c code 4 s #[Value.ref b] lw_good R_law := ⟨hx, hb, hml, hown, fun w hw => hts w (List.mem_filter.mp hw).1⟩
  have hbA : ¬ Ax s b := Nat.not_le.mpr hbl
  refine lv_aload_n hx hb dL_law_681 rfl (lv_at hl 1 rfl) ?_
  refine lv_aload_n hx hb dL_law_682 rfl (lv_at hl 0 rfl) ?_
  refine lv_iload_n hx hb dL_law_683 rfl (lv_at hl 3 rfl) ?_
  refine lv_iconst (v := (1 : Int32)) hx hb dL_law_684 (by decide) ?_
  refine lv_iadd hx hb dL_law_685 ?_
  refine va_sld hx hb hX hbl hbA hS (hi 1 (by decide)) dL_law_686 ?_
  refine lv_aload_n hx hb dL_law_687 rfl (lv_at hl 0 rfl) ?_
  refine lv_iload_n hx hb dL_law_688 rfl (lv_at hl 3 rfl) ?_
  refine lv_iconst (v := (2 : Int32)) hx hb dL_law_689 (by decide) ?_
  refine lv_iadd hx hb dL_law_690 ?_
  refine va_sld hx hb hX hbl hbA hS (hi 2 (by decide)) dL_law_691 ?_
  refine lv_aload_n hx hb dL_law_692 rfl (lv_at hl 0 rfl) ?_
  refine lv_iload_n hx hb dL_law_693 rfl (lv_at hl 3 rfl) ?_
  refine lv_iconst (v := (3 : Int32)) hx hb dL_law_694 (by decide) ?_
  refine lv_iadd hx hb dL_law_695 ?_
  refine va_sld hx hb hX hbl hbA hS (hi 3 (by decide)) dL_law_696 ?_
  refine lcV (As := [.int (xs (x3 + (1 : Int32)).toNatClampNeg), .int (xs (x3 + (2 : Int32)).toNatClampNeg), .int (xs (x3 + (3 : Int32)).toNatClampNeg)]) CF G hP hP2 hS hb1 (Or.inr hb2) (Nat.le_of_ble_eq_true rfl) (xd_0 _ _) rfl (c11_barred hfx) y11_barred_w g_922 rfl rfl rfl ⟨Nat.le_of_ble_eq_true rfl, Nat.le_of_ble_eq_true rfl⟩ hl.1 rfl (Nat.le_of_ble_eq_true rfl) dL_law_697 hcs (fun H locs hP hP2 hS => ?_)
  refine lv_aload_n hx hb dL_law_700 rfl (lv_at hl 2 rfl) ?_
  refine lv_aload_n hx hb dL_law_701 rfl (lv_at hl 0 rfl) ?_
  refine lv_iload_n hx hb dL_law_702 rfl (lv_at hl 3 rfl) ?_
  refine lv_iconst (v := (1 : Int32)) hx hb dL_law_703 (by decide) ?_
  refine lv_iadd hx hb dL_law_704 ?_
  refine va_sld hx hb hX hbl hbA hS (hi 1 (by decide)) dL_law_705 ?_
  refine lv_aload_n hx hb dL_law_706 rfl (lv_at hl 0 rfl) ?_
  refine lv_iload_n hx hb dL_law_707 rfl (lv_at hl 3 rfl) ?_
  refine lv_iconst (v := (2 : Int32)) hx hb dL_law_708 (by decide) ?_
  refine lv_iadd hx hb dL_law_709 ?_
  refine va_sld hx hb hX hbl hbA hS (hi 2 (by decide)) dL_law_710 ?_
  refine lv_aload_n hx hb dL_law_711 rfl (lv_at hl 0 rfl) ?_
  refine lv_iload_n hx hb dL_law_712 rfl (lv_at hl 3 rfl) ?_
  refine lv_iconst (v := (3 : Int32)) hx hb dL_law_713 (by decide) ?_
  refine lv_iadd hx hb dL_law_714 ?_
  refine va_sld hx hb hX hbl hbA hS (hi 3 (by decide)) dL_law_715 ?_
  refine lcV (As := [.int (xs (x3 + (1 : Int32)).toNatClampNeg), .int (xs (x3 + (2 : Int32)).toNatClampNeg), .int (xs (x3 + (3 : Int32)).toNatClampNeg)]) CF G hP2 hP hS (Nat.le_trans hb1 (Nat.le_trans (Nat.le_add_right _ _) hb2)) (Or.inl hb2) (Nat.le_of_ble_eq_true rfl) (yd_0 _ _) rfl (c12_barred hfy) y12_barred_w g_1609 rfl rfl rfl ⟨Nat.le_of_ble_eq_true rfl, Nat.le_of_ble_eq_true rfl⟩ hl.1 rfl (Nat.le_of_ble_eq_true rfl) dL_law_716 hcs (fun H locs hP2 hP hS => ?_)
  refine lv_icmp_eq (tgt := 974) hx hb dL_law_719 (by decide) (fun _ => ?_) (fun h => absurd rfl h)
  exact kk H locs hP hP2 hS
set_option maxHeartbeats 4000000 in
set_option maxRecDepth 100000 in
theorem lawc_18 {p : Program} {e : Env} {s : State} {m : MethodId} {below : List Frame} {meth : Method} {c : Code} {l : Launch} {b L : Nat} {xs : Nat → Int32} (hL : L ≤ 3072) (C0 : lw_At p s m meth c b L xs) {z : Zt} (G : Gx z (Ax s) s) {b1 b2 : Nat} (hb1 : s.heap.size ≤ b1) (hb2 : b1 + 339 ≤ b2) {cells slots : Nat} (hcs : cells ≤ 600000 ∧ slots ≤ 7302250) {FU : Nat} {Mx My Mx' My' : Mem} {r : Int32} {x3 : Int32} (hi : ∀ k : Int32, k ∈ ([1, 2, 3, 4, 5] : List Int32) → vp_in (x3 + k) L) (hfx : f11_chase FU (xs (x3 + (1 : Int32)).toNatClampNeg) (xs (x3 + (2 : Int32)).toNatClampNeg) Mx = some (r, Mx')) (hfy : f12_chase FU (xs (x3 + (1 : Int32)).toNatClampNeg) (xs (x3 + (2 : Int32)).toNatClampNeg) My = some (r, My')) {H : Heap} {locs : List Loc} {ls : Array Slot} (hP : va_P z.1 vwCl (pw (xd z b1) 339 b1 Mx) H) (hP2 : va_P z.1 vwCl (pw (yd z b2) 32 b2 My) H) (hS : va_S (Ax s) s.heap H locs) (hl : lv_has ls 4 [(0, .ref b), (1, .ref (b1 + 0)), (2, .ref (b2 + 0)), (3, .int x3)])
    (kk : ∀ (H : Heap) (locs : List Loc) (hP : va_P z.1 vwCl (pw (xd z b1) 339 b1 Mx') H) (hP2 : va_P z.1 vwCl (pw (yd z b2) 32 b2 My') H) (hS : va_S (Ax s) s.heap H locs), W p l e room_1 s m #[Value.ref b] below meth c H locs cells slots (lw_Z below #[Value.ref b] s) (F0 m 974 ls [])) : W p l e room_1 s m #[Value.ref b] below meth c H locs cells slots (lw_Z below #[Value.ref b] s) (F0 m 724 ls []) := by
  obtain ⟨hx, hb, hr, hml, hown, hts, hX, hbl, hlocks, hgv⟩ := id C0
  have CF : CallFix p m c code 4 s #[Value.ref b] lw_good R_law := ⟨hx, hb, hml, hown, fun w hw => hts w (List.mem_filter.mp hw).1⟩
  have hbA : ¬ Ax s b := Nat.not_le.mpr hbl
  refine lv_aload_n hx hb dL_law_724 rfl (lv_at hl 1 rfl) ?_
  refine lv_aload_n hx hb dL_law_725 rfl (lv_at hl 0 rfl) ?_
  refine lv_iload_n hx hb dL_law_726 rfl (lv_at hl 3 rfl) ?_
  refine lv_iconst (v := (1 : Int32)) hx hb dL_law_727 (by decide) ?_
  refine lv_iadd hx hb dL_law_728 ?_
  refine va_sld hx hb hX hbl hbA hS (hi 1 (by decide)) dL_law_729 ?_
  refine lv_aload_n hx hb dL_law_730 rfl (lv_at hl 0 rfl) ?_
  refine lv_iload_n hx hb dL_law_731 rfl (lv_at hl 3 rfl) ?_
  refine lv_iconst (v := (2 : Int32)) hx hb dL_law_732 (by decide) ?_
  refine lv_iadd hx hb dL_law_733 ?_
  refine va_sld hx hb hX hbl hbA hS (hi 2 (by decide)) dL_law_734 ?_
  refine lcV (As := [.int (xs (x3 + (1 : Int32)).toNatClampNeg), .int (xs (x3 + (2 : Int32)).toNatClampNeg)]) CF G hP hP2 hS hb1 (Or.inr hb2) (Nat.le_of_ble_eq_true rfl) (xd_0 _ _) rfl (c11_chase hfx) y11_chase_w g_938 rfl rfl rfl ⟨Nat.le_of_ble_eq_true rfl, Nat.le_of_ble_eq_true rfl⟩ hl.1 rfl (Nat.le_of_ble_eq_true rfl) dL_law_735 hcs (fun H locs hP hP2 hS => ?_)
  refine lv_aload_n hx hb dL_law_738 rfl (lv_at hl 2 rfl) ?_
  refine lv_aload_n hx hb dL_law_739 rfl (lv_at hl 0 rfl) ?_
  refine lv_iload_n hx hb dL_law_740 rfl (lv_at hl 3 rfl) ?_
  refine lv_iconst (v := (1 : Int32)) hx hb dL_law_741 (by decide) ?_
  refine lv_iadd hx hb dL_law_742 ?_
  refine va_sld hx hb hX hbl hbA hS (hi 1 (by decide)) dL_law_743 ?_
  refine lv_aload_n hx hb dL_law_744 rfl (lv_at hl 0 rfl) ?_
  refine lv_iload_n hx hb dL_law_745 rfl (lv_at hl 3 rfl) ?_
  refine lv_iconst (v := (2 : Int32)) hx hb dL_law_746 (by decide) ?_
  refine lv_iadd hx hb dL_law_747 ?_
  refine va_sld hx hb hX hbl hbA hS (hi 2 (by decide)) dL_law_748 ?_
  refine lcV (As := [.int (xs (x3 + (1 : Int32)).toNatClampNeg), .int (xs (x3 + (2 : Int32)).toNatClampNeg)]) CF G hP2 hP hS (Nat.le_trans hb1 (Nat.le_trans (Nat.le_add_right _ _) hb2)) (Or.inl hb2) (Nat.le_of_ble_eq_true rfl) (yd_0 _ _) rfl (c12_chase hfy) y12_chase_w g_1613 rfl rfl rfl ⟨Nat.le_of_ble_eq_true rfl, Nat.le_of_ble_eq_true rfl⟩ hl.1 rfl (Nat.le_of_ble_eq_true rfl) dL_law_749 hcs (fun H locs hP2 hP hS => ?_)
  refine lv_icmp_eq (tgt := 974) hx hb dL_law_752 (by decide) (fun _ => ?_) (fun h => absurd rfl h)
  exact kk H locs hP hP2 hS
set_option maxHeartbeats 4000000 in
set_option maxRecDepth 100000 in
theorem lawc_19 {p : Program} {e : Env} {s : State} {m : MethodId} {below : List Frame} {meth : Method} {c : Code} {l : Launch} {b L : Nat} {xs : Nat → Int32} (hL : L ≤ 3072) (C0 : lw_At p s m meth c b L xs) {z : Zt} (G : Gx z (Ax s) s) {b1 b2 : Nat} (hb1 : s.heap.size ≤ b1) (hb2 : b1 + 339 ≤ b2) {cells slots : Nat} (hcs : cells ≤ 600000 ∧ slots ≤ 7302250) {FU : Nat} {Mx My Mx' My' : Mem} {r : Int32} {x3 : Int32} (hi : ∀ k : Int32, k ∈ ([1, 2, 3, 4, 5] : List Int32) → vp_in (x3 + k) L) (hfx : f11_lovers FU (xs (x3 + (1 : Int32)).toNatClampNeg) (xs (x3 + (2 : Int32)).toNatClampNeg) Mx = some (r, Mx')) (hfy : f12_lovers FU (xs (x3 + (1 : Int32)).toNatClampNeg) (xs (x3 + (2 : Int32)).toNatClampNeg) My = some (r, My')) {H : Heap} {locs : List Loc} {ls : Array Slot} (hP : va_P z.1 vwCl (pw (xd z b1) 339 b1 Mx) H) (hP2 : va_P z.1 vwCl (pw (yd z b2) 32 b2 My) H) (hS : va_S (Ax s) s.heap H locs) (hl : lv_has ls 4 [(0, .ref b), (1, .ref (b1 + 0)), (2, .ref (b2 + 0)), (3, .int x3)])
    (kk : ∀ (H : Heap) (locs : List Loc) (hP : va_P z.1 vwCl (pw (xd z b1) 339 b1 Mx') H) (hP2 : va_P z.1 vwCl (pw (yd z b2) 32 b2 My') H) (hS : va_S (Ax s) s.heap H locs), W p l e room_1 s m #[Value.ref b] below meth c H locs cells slots (lw_Z below #[Value.ref b] s) (F0 m 974 ls [])) : W p l e room_1 s m #[Value.ref b] below meth c H locs cells slots (lw_Z below #[Value.ref b] s) (F0 m 757 ls []) := by
  obtain ⟨hx, hb, hr, hml, hown, hts, hX, hbl, hlocks, hgv⟩ := id C0
  have CF : CallFix p m c code 4 s #[Value.ref b] lw_good R_law := ⟨hx, hb, hml, hown, fun w hw => hts w (List.mem_filter.mp hw).1⟩
  have hbA : ¬ Ax s b := Nat.not_le.mpr hbl
  refine lv_aload_n hx hb dL_law_757 rfl (lv_at hl 1 rfl) ?_
  refine lv_aload_n hx hb dL_law_758 rfl (lv_at hl 0 rfl) ?_
  refine lv_iload_n hx hb dL_law_759 rfl (lv_at hl 3 rfl) ?_
  refine lv_iconst (v := (1 : Int32)) hx hb dL_law_760 (by decide) ?_
  refine lv_iadd hx hb dL_law_761 ?_
  refine va_sld hx hb hX hbl hbA hS (hi 1 (by decide)) dL_law_762 ?_
  refine lv_aload_n hx hb dL_law_763 rfl (lv_at hl 0 rfl) ?_
  refine lv_iload_n hx hb dL_law_764 rfl (lv_at hl 3 rfl) ?_
  refine lv_iconst (v := (2 : Int32)) hx hb dL_law_765 (by decide) ?_
  refine lv_iadd hx hb dL_law_766 ?_
  refine va_sld hx hb hX hbl hbA hS (hi 2 (by decide)) dL_law_767 ?_
  refine lcV (As := [.int (xs (x3 + (1 : Int32)).toNatClampNeg), .int (xs (x3 + (2 : Int32)).toNatClampNeg)]) CF G hP hP2 hS hb1 (Or.inr hb2) (Nat.le_of_ble_eq_true rfl) (xd_0 _ _) rfl (c11_lovers hfx) y11_lovers_w g_997 rfl rfl rfl ⟨Nat.le_of_ble_eq_true rfl, Nat.le_of_ble_eq_true rfl⟩ hl.1 rfl (Nat.le_of_ble_eq_true rfl) dL_law_768 hcs (fun H locs hP hP2 hS => ?_)
  refine lv_aload_n hx hb dL_law_771 rfl (lv_at hl 2 rfl) ?_
  refine lv_aload_n hx hb dL_law_772 rfl (lv_at hl 0 rfl) ?_
  refine lv_iload_n hx hb dL_law_773 rfl (lv_at hl 3 rfl) ?_
  refine lv_iconst (v := (1 : Int32)) hx hb dL_law_774 (by decide) ?_
  refine lv_iadd hx hb dL_law_775 ?_
  refine va_sld hx hb hX hbl hbA hS (hi 1 (by decide)) dL_law_776 ?_
  refine lv_aload_n hx hb dL_law_777 rfl (lv_at hl 0 rfl) ?_
  refine lv_iload_n hx hb dL_law_778 rfl (lv_at hl 3 rfl) ?_
  refine lv_iconst (v := (2 : Int32)) hx hb dL_law_779 (by decide) ?_
  refine lv_iadd hx hb dL_law_780 ?_
  refine va_sld hx hb hX hbl hbA hS (hi 2 (by decide)) dL_law_781 ?_
  refine lcV (As := [.int (xs (x3 + (1 : Int32)).toNatClampNeg), .int (xs (x3 + (2 : Int32)).toNatClampNeg)]) CF G hP2 hP hS (Nat.le_trans hb1 (Nat.le_trans (Nat.le_add_right _ _) hb2)) (Or.inl hb2) (Nat.le_of_ble_eq_true rfl) (yd_0 _ _) rfl (c12_lovers hfy) y12_lovers_w g_1629 rfl rfl rfl ⟨Nat.le_of_ble_eq_true rfl, Nat.le_of_ble_eq_true rfl⟩ hl.1 rfl (Nat.le_of_ble_eq_true rfl) dL_law_782 hcs (fun H locs hP2 hP hS => ?_)
  refine lv_icmp_eq (tgt := 974) hx hb dL_law_785 (by decide) (fun _ => ?_) (fun h => absurd rfl h)
  exact kk H locs hP hP2 hS
set_option maxHeartbeats 4000000 in
set_option maxRecDepth 100000 in
theorem lawc_20 {p : Program} {e : Env} {s : State} {m : MethodId} {below : List Frame} {meth : Method} {c : Code} {l : Launch} {b L : Nat} {xs : Nat → Int32} (hL : L ≤ 3072) (C0 : lw_At p s m meth c b L xs) {z : Zt} (G : Gx z (Ax s) s) {b1 b2 : Nat} (hb1 : s.heap.size ≤ b1) (hb2 : b1 + 339 ≤ b2) {cells slots : Nat} (hcs : cells ≤ 600000 ∧ slots ≤ 7302250) {FU : Nat} {Mx My Mx' My' : Mem} {r : Int32} {x3 : Int32} (hi : ∀ k : Int32, k ∈ ([1, 2, 3, 4, 5] : List Int32) → vp_in (x3 + k) L) (hfx : f11_benches FU (xs (x3 + (1 : Int32)).toNatClampNeg) (xs (x3 + (2 : Int32)).toNatClampNeg) Mx = some (r, Mx')) (hfy : f12_benches FU (xs (x3 + (1 : Int32)).toNatClampNeg) (xs (x3 + (2 : Int32)).toNatClampNeg) My = some (r, My')) {H : Heap} {locs : List Loc} {ls : Array Slot} (hP : va_P z.1 vwCl (pw (xd z b1) 339 b1 Mx) H) (hP2 : va_P z.1 vwCl (pw (yd z b2) 32 b2 My) H) (hS : va_S (Ax s) s.heap H locs) (hl : lv_has ls 4 [(0, .ref b), (1, .ref (b1 + 0)), (2, .ref (b2 + 0)), (3, .int x3)])
    (kk : ∀ (H : Heap) (locs : List Loc) (hP : va_P z.1 vwCl (pw (xd z b1) 339 b1 Mx') H) (hP2 : va_P z.1 vwCl (pw (yd z b2) 32 b2 My') H) (hS : va_S (Ax s) s.heap H locs), W p l e room_1 s m #[Value.ref b] below meth c H locs cells slots (lw_Z below #[Value.ref b] s) (F0 m 974 ls [])) : W p l e room_1 s m #[Value.ref b] below meth c H locs cells slots (lw_Z below #[Value.ref b] s) (F0 m 790 ls []) := by
  obtain ⟨hx, hb, hr, hml, hown, hts, hX, hbl, hlocks, hgv⟩ := id C0
  have CF : CallFix p m c code 4 s #[Value.ref b] lw_good R_law := ⟨hx, hb, hml, hown, fun w hw => hts w (List.mem_filter.mp hw).1⟩
  have hbA : ¬ Ax s b := Nat.not_le.mpr hbl
  refine lv_aload_n hx hb dL_law_790 rfl (lv_at hl 1 rfl) ?_
  refine lv_aload_n hx hb dL_law_791 rfl (lv_at hl 0 rfl) ?_
  refine lv_iload_n hx hb dL_law_792 rfl (lv_at hl 3 rfl) ?_
  refine lv_iconst (v := (1 : Int32)) hx hb dL_law_793 (by decide) ?_
  refine lv_iadd hx hb dL_law_794 ?_
  refine va_sld hx hb hX hbl hbA hS (hi 1 (by decide)) dL_law_795 ?_
  refine lv_aload_n hx hb dL_law_796 rfl (lv_at hl 0 rfl) ?_
  refine lv_iload_n hx hb dL_law_797 rfl (lv_at hl 3 rfl) ?_
  refine lv_iconst (v := (2 : Int32)) hx hb dL_law_798 (by decide) ?_
  refine lv_iadd hx hb dL_law_799 ?_
  refine va_sld hx hb hX hbl hbA hS (hi 2 (by decide)) dL_law_800 ?_
  refine lcV (As := [.int (xs (x3 + (1 : Int32)).toNatClampNeg), .int (xs (x3 + (2 : Int32)).toNatClampNeg)]) CF G hP hP2 hS hb1 (Or.inr hb2) (Nat.le_of_ble_eq_true rfl) (xd_0 _ _) rfl (c11_benches hfx) y11_benches_w g_1014 rfl rfl rfl ⟨Nat.le_of_ble_eq_true rfl, Nat.le_of_ble_eq_true rfl⟩ hl.1 rfl (Nat.le_of_ble_eq_true rfl) dL_law_801 hcs (fun H locs hP hP2 hS => ?_)
  refine lv_aload_n hx hb dL_law_804 rfl (lv_at hl 2 rfl) ?_
  refine lv_aload_n hx hb dL_law_805 rfl (lv_at hl 0 rfl) ?_
  refine lv_iload_n hx hb dL_law_806 rfl (lv_at hl 3 rfl) ?_
  refine lv_iconst (v := (1 : Int32)) hx hb dL_law_807 (by decide) ?_
  refine lv_iadd hx hb dL_law_808 ?_
  refine va_sld hx hb hX hbl hbA hS (hi 1 (by decide)) dL_law_809 ?_
  refine lv_aload_n hx hb dL_law_810 rfl (lv_at hl 0 rfl) ?_
  refine lv_iload_n hx hb dL_law_811 rfl (lv_at hl 3 rfl) ?_
  refine lv_iconst (v := (2 : Int32)) hx hb dL_law_812 (by decide) ?_
  refine lv_iadd hx hb dL_law_813 ?_
  refine va_sld hx hb hX hbl hbA hS (hi 2 (by decide)) dL_law_814 ?_
  refine lcV (As := [.int (xs (x3 + (1 : Int32)).toNatClampNeg), .int (xs (x3 + (2 : Int32)).toNatClampNeg)]) CF G hP2 hP hS (Nat.le_trans hb1 (Nat.le_trans (Nat.le_add_right _ _) hb2)) (Or.inl hb2) (Nat.le_of_ble_eq_true rfl) (yd_0 _ _) rfl (c12_benches hfy) y12_benches_w g_1637 rfl rfl rfl ⟨Nat.le_of_ble_eq_true rfl, Nat.le_of_ble_eq_true rfl⟩ hl.1 rfl (Nat.le_of_ble_eq_true rfl) dL_law_815 hcs (fun H locs hP2 hP hS => ?_)
  refine lv_icmp_eq (tgt := 974) hx hb dL_law_818 (by decide) (fun _ => ?_) (fun h => absurd rfl h)
  exact kk H locs hP hP2 hS
set_option maxHeartbeats 4000000 in
set_option maxRecDepth 100000 in
theorem lawc_21 {p : Program} {e : Env} {s : State} {m : MethodId} {below : List Frame} {meth : Method} {c : Code} {l : Launch} {b L : Nat} {xs : Nat → Int32} (hL : L ≤ 3072) (C0 : lw_At p s m meth c b L xs) {z : Zt} (G : Gx z (Ax s) s) {b1 b2 : Nat} (hb1 : s.heap.size ≤ b1) (hb2 : b1 + 339 ≤ b2) {cells slots : Nat} (hcs : cells ≤ 600000 ∧ slots ≤ 7302250) {FU : Nat} {Mx My Mx' My' : Mem} {r : Int32} {x3 : Int32} (hi : ∀ k : Int32, k ∈ ([1, 2, 3, 4, 5] : List Int32) → vp_in (x3 + k) L) (hfx : f11_pigeons FU (xs (x3 + (1 : Int32)).toNatClampNeg) Mx = some (r, Mx')) (hfy : f12_pigeons FU (xs (x3 + (1 : Int32)).toNatClampNeg) My = some (r, My')) {H : Heap} {locs : List Loc} {ls : Array Slot} (hP : va_P z.1 vwCl (pw (xd z b1) 339 b1 Mx) H) (hP2 : va_P z.1 vwCl (pw (yd z b2) 32 b2 My) H) (hS : va_S (Ax s) s.heap H locs) (hl : lv_has ls 4 [(0, .ref b), (1, .ref (b1 + 0)), (2, .ref (b2 + 0)), (3, .int x3)])
    (kk : ∀ (H : Heap) (locs : List Loc) (hP : va_P z.1 vwCl (pw (xd z b1) 339 b1 Mx') H) (hP2 : va_P z.1 vwCl (pw (yd z b2) 32 b2 My') H) (hS : va_S (Ax s) s.heap H locs), W p l e room_1 s m #[Value.ref b] below meth c H locs cells slots (lw_Z below #[Value.ref b] s) (F0 m 974 ls [])) : W p l e room_1 s m #[Value.ref b] below meth c H locs cells slots (lw_Z below #[Value.ref b] s) (F0 m 823 ls []) := by
  obtain ⟨hx, hb, hr, hml, hown, hts, hX, hbl, hlocks, hgv⟩ := id C0
  have CF : CallFix p m c code 4 s #[Value.ref b] lw_good R_law := ⟨hx, hb, hml, hown, fun w hw => hts w (List.mem_filter.mp hw).1⟩
  have hbA : ¬ Ax s b := Nat.not_le.mpr hbl
  refine lv_aload_n hx hb dL_law_823 rfl (lv_at hl 1 rfl) ?_
  refine lv_aload_n hx hb dL_law_824 rfl (lv_at hl 0 rfl) ?_
  refine lv_iload_n hx hb dL_law_825 rfl (lv_at hl 3 rfl) ?_
  refine lv_iconst (v := (1 : Int32)) hx hb dL_law_826 (by decide) ?_
  refine lv_iadd hx hb dL_law_827 ?_
  refine va_sld hx hb hX hbl hbA hS (hi 1 (by decide)) dL_law_828 ?_
  refine lcV (As := [.int (xs (x3 + (1 : Int32)).toNatClampNeg)]) CF G hP hP2 hS hb1 (Or.inr hb2) (Nat.le_of_ble_eq_true rfl) (xd_0 _ _) rfl (c11_pigeons hfx) y11_pigeons_w g_1043 rfl rfl rfl ⟨Nat.le_of_ble_eq_true rfl, Nat.le_of_ble_eq_true rfl⟩ hl.1 rfl (Nat.le_of_ble_eq_true rfl) dL_law_829 hcs (fun H locs hP hP2 hS => ?_)
  refine lv_aload_n hx hb dL_law_832 rfl (lv_at hl 2 rfl) ?_
  refine lv_aload_n hx hb dL_law_833 rfl (lv_at hl 0 rfl) ?_
  refine lv_iload_n hx hb dL_law_834 rfl (lv_at hl 3 rfl) ?_
  refine lv_iconst (v := (1 : Int32)) hx hb dL_law_835 (by decide) ?_
  refine lv_iadd hx hb dL_law_836 ?_
  refine va_sld hx hb hX hbl hbA hS (hi 1 (by decide)) dL_law_837 ?_
  refine lcV (As := [.int (xs (x3 + (1 : Int32)).toNatClampNeg)]) CF G hP2 hP hS (Nat.le_trans hb1 (Nat.le_trans (Nat.le_add_right _ _) hb2)) (Or.inl hb2) (Nat.le_of_ble_eq_true rfl) (yd_0 _ _) rfl (c12_pigeons hfy) y12_pigeons_w g_1653 rfl rfl rfl ⟨Nat.le_of_ble_eq_true rfl, Nat.le_of_ble_eq_true rfl⟩ hl.1 rfl (Nat.le_of_ble_eq_true rfl) dL_law_838 hcs (fun H locs hP2 hP hS => ?_)
  refine lv_icmp_eq (tgt := 974) hx hb dL_law_841 (by decide) (fun _ => ?_) (fun h => absurd rfl h)
  exact kk H locs hP hP2 hS
set_option maxHeartbeats 4000000 in
set_option maxRecDepth 100000 in
theorem lawc_22 {p : Program} {e : Env} {s : State} {m : MethodId} {below : List Frame} {meth : Method} {c : Code} {l : Launch} {b L : Nat} {xs : Nat → Int32} (hL : L ≤ 3072) (C0 : lw_At p s m meth c b L xs) {z : Zt} (G : Gx z (Ax s) s) {b1 b2 : Nat} (hb1 : s.heap.size ≤ b1) (hb2 : b1 + 339 ≤ b2) {cells slots : Nat} (hcs : cells ≤ 600000 ∧ slots ≤ 7302250) {FU : Nat} {Mx My Mx' My' : Mem} {r : Int32} {x3 : Int32} (hi : ∀ k : Int32, k ∈ ([1, 2, 3, 4, 5] : List Int32) → vp_in (x3 + k) L) (hfx : f11_streets FU (xs (x3 + (1 : Int32)).toNatClampNeg) Mx = some (r, Mx')) (hfy : f12_streets FU (xs (x3 + (1 : Int32)).toNatClampNeg) My = some (r, My')) {H : Heap} {locs : List Loc} {ls : Array Slot} (hP : va_P z.1 vwCl (pw (xd z b1) 339 b1 Mx) H) (hP2 : va_P z.1 vwCl (pw (yd z b2) 32 b2 My) H) (hS : va_S (Ax s) s.heap H locs) (hl : lv_has ls 4 [(0, .ref b), (1, .ref (b1 + 0)), (2, .ref (b2 + 0)), (3, .int x3)])
    (kk : ∀ (H : Heap) (locs : List Loc) (hP : va_P z.1 vwCl (pw (xd z b1) 339 b1 Mx') H) (hP2 : va_P z.1 vwCl (pw (yd z b2) 32 b2 My') H) (hS : va_S (Ax s) s.heap H locs), W p l e room_1 s m #[Value.ref b] below meth c H locs cells slots (lw_Z below #[Value.ref b] s) (F0 m 974 ls [])) : W p l e room_1 s m #[Value.ref b] below meth c H locs cells slots (lw_Z below #[Value.ref b] s) (F0 m 846 ls []) := by
  obtain ⟨hx, hb, hr, hml, hown, hts, hX, hbl, hlocks, hgv⟩ := id C0
  have CF : CallFix p m c code 4 s #[Value.ref b] lw_good R_law := ⟨hx, hb, hml, hown, fun w hw => hts w (List.mem_filter.mp hw).1⟩
  have hbA : ¬ Ax s b := Nat.not_le.mpr hbl
  refine lv_aload_n hx hb dL_law_846 rfl (lv_at hl 1 rfl) ?_
  refine lv_aload_n hx hb dL_law_847 rfl (lv_at hl 0 rfl) ?_
  refine lv_iload_n hx hb dL_law_848 rfl (lv_at hl 3 rfl) ?_
  refine lv_iconst (v := (1 : Int32)) hx hb dL_law_849 (by decide) ?_
  refine lv_iadd hx hb dL_law_850 ?_
  refine va_sld hx hb hX hbl hbA hS (hi 1 (by decide)) dL_law_851 ?_
  refine lcV (As := [.int (xs (x3 + (1 : Int32)).toNatClampNeg)]) CF G hP hP2 hS hb1 (Or.inr hb2) (Nat.le_of_ble_eq_true rfl) (xd_0 _ _) rfl (c11_streets hfx) y11_streets_w g_1050 rfl rfl rfl ⟨Nat.le_of_ble_eq_true rfl, Nat.le_of_ble_eq_true rfl⟩ hl.1 rfl (Nat.le_of_ble_eq_true rfl) dL_law_852 hcs (fun H locs hP hP2 hS => ?_)
  refine lv_aload_n hx hb dL_law_855 rfl (lv_at hl 2 rfl) ?_
  refine lv_aload_n hx hb dL_law_856 rfl (lv_at hl 0 rfl) ?_
  refine lv_iload_n hx hb dL_law_857 rfl (lv_at hl 3 rfl) ?_
  refine lv_iconst (v := (1 : Int32)) hx hb dL_law_858 (by decide) ?_
  refine lv_iadd hx hb dL_law_859 ?_
  refine va_sld hx hb hX hbl hbA hS (hi 1 (by decide)) dL_law_860 ?_
  refine lcV (As := [.int (xs (x3 + (1 : Int32)).toNatClampNeg)]) CF G hP2 hP hS (Nat.le_trans hb1 (Nat.le_trans (Nat.le_add_right _ _) hb2)) (Or.inl hb2) (Nat.le_of_ble_eq_true rfl) (yd_0 _ _) rfl (c12_streets hfy) y12_streets_w g_1660 rfl rfl rfl ⟨Nat.le_of_ble_eq_true rfl, Nat.le_of_ble_eq_true rfl⟩ hl.1 rfl (Nat.le_of_ble_eq_true rfl) dL_law_861 hcs (fun H locs hP2 hP hS => ?_)
  refine lv_icmp_eq (tgt := 974) hx hb dL_law_864 (by decide) (fun _ => ?_) (fun h => absurd rfl h)
  exact kk H locs hP hP2 hS
set_option maxHeartbeats 4000000 in
set_option maxRecDepth 100000 in
theorem lawc_23 {p : Program} {e : Env} {s : State} {m : MethodId} {below : List Frame} {meth : Method} {c : Code} {l : Launch} {b L : Nat} {xs : Nat → Int32} (hL : L ≤ 3072) (C0 : lw_At p s m meth c b L xs) {z : Zt} (G : Gx z (Ax s) s) {b1 b2 : Nat} (hb1 : s.heap.size ≤ b1) (hb2 : b1 + 339 ≤ b2) {cells slots : Nat} (hcs : cells ≤ 600000 ∧ slots ≤ 7302250) {FU : Nat} {Mx My Mx' My' : Mem} {r : Int32} {x3 : Int32} (hi : ∀ k : Int32, k ∈ ([1, 2, 3, 4, 5] : List Int32) → vp_in (x3 + k) L) (hfx : f11_seed FU (xs (x3 + (1 : Int32)).toNatClampNeg) Mx = some (r, Mx')) (hfy : f12_seed FU (xs (x3 + (1 : Int32)).toNatClampNeg) My = some (r, My')) {H : Heap} {locs : List Loc} {ls : Array Slot} (hP : va_P z.1 vwCl (pw (xd z b1) 339 b1 Mx) H) (hP2 : va_P z.1 vwCl (pw (yd z b2) 32 b2 My) H) (hS : va_S (Ax s) s.heap H locs) (hl : lv_has ls 4 [(0, .ref b), (1, .ref (b1 + 0)), (2, .ref (b2 + 0)), (3, .int x3)])
    (kk : ∀ (H : Heap) (locs : List Loc) (hP : va_P z.1 vwCl (pw (xd z b1) 339 b1 Mx') H) (hP2 : va_P z.1 vwCl (pw (yd z b2) 32 b2 My') H) (hS : va_S (Ax s) s.heap H locs), W p l e room_1 s m #[Value.ref b] below meth c H locs cells slots (lw_Z below #[Value.ref b] s) (F0 m 974 ls [])) : W p l e room_1 s m #[Value.ref b] below meth c H locs cells slots (lw_Z below #[Value.ref b] s) (F0 m 869 ls []) := by
  obtain ⟨hx, hb, hr, hml, hown, hts, hX, hbl, hlocks, hgv⟩ := id C0
  have CF : CallFix p m c code 4 s #[Value.ref b] lw_good R_law := ⟨hx, hb, hml, hown, fun w hw => hts w (List.mem_filter.mp hw).1⟩
  have hbA : ¬ Ax s b := Nat.not_le.mpr hbl
  refine lv_aload_n hx hb dL_law_869 rfl (lv_at hl 1 rfl) ?_
  refine lv_aload_n hx hb dL_law_870 rfl (lv_at hl 0 rfl) ?_
  refine lv_iload_n hx hb dL_law_871 rfl (lv_at hl 3 rfl) ?_
  refine lv_iconst (v := (1 : Int32)) hx hb dL_law_872 (by decide) ?_
  refine lv_iadd hx hb dL_law_873 ?_
  refine va_sld hx hb hX hbl hbA hS (hi 1 (by decide)) dL_law_874 ?_
  refine lcV (As := [.int (xs (x3 + (1 : Int32)).toNatClampNeg)]) CF G hP hP2 hS hb1 (Or.inr hb2) (Nat.le_of_ble_eq_true rfl) (xd_0 _ _) rfl (c11_seed hfx) y11_seed_w g_1098 rfl rfl rfl ⟨Nat.le_of_ble_eq_true rfl, Nat.le_of_ble_eq_true rfl⟩ hl.1 rfl (Nat.le_of_ble_eq_true rfl) dL_law_875 hcs (fun H locs hP hP2 hS => ?_)
  refine lv_aload_n hx hb dL_law_878 rfl (lv_at hl 2 rfl) ?_
  refine lv_aload_n hx hb dL_law_879 rfl (lv_at hl 0 rfl) ?_
  refine lv_iload_n hx hb dL_law_880 rfl (lv_at hl 3 rfl) ?_
  refine lv_iconst (v := (1 : Int32)) hx hb dL_law_881 (by decide) ?_
  refine lv_iadd hx hb dL_law_882 ?_
  refine va_sld hx hb hX hbl hbA hS (hi 1 (by decide)) dL_law_883 ?_
  refine lcV (As := [.int (xs (x3 + (1 : Int32)).toNatClampNeg)]) CF G hP2 hP hS (Nat.le_trans hb1 (Nat.le_trans (Nat.le_add_right _ _) hb2)) (Or.inl hb2) (Nat.le_of_ble_eq_true rfl) (yd_0 _ _) rfl (c12_seed hfy) y12_seed_w g_1684 rfl rfl rfl ⟨Nat.le_of_ble_eq_true rfl, Nat.le_of_ble_eq_true rfl⟩ hl.1 rfl (Nat.le_of_ble_eq_true rfl) dL_law_884 hcs (fun H locs hP2 hP hS => ?_)
  refine lv_icmp_eq (tgt := 974) hx hb dL_law_887 (by decide) (fun _ => ?_) (fun h => absurd rfl h)
  exact kk H locs hP hP2 hS
set_option maxHeartbeats 4000000 in
set_option maxRecDepth 100000 in
theorem lawc_24 {p : Program} {e : Env} {s : State} {m : MethodId} {below : List Frame} {meth : Method} {c : Code} {l : Launch} {b L : Nat} {xs : Nat → Int32} (hL : L ≤ 3072) (C0 : lw_At p s m meth c b L xs) {z : Zt} (G : Gx z (Ax s) s) {b1 b2 : Nat} (hb1 : s.heap.size ≤ b1) (hb2 : b1 + 339 ≤ b2) {cells slots : Nat} (hcs : cells ≤ 600000 ∧ slots ≤ 7302250) {FU : Nat} {Mx My Mx' My' : Mem} {r : Int32} {x3 : Int32} (hi : ∀ k : Int32, k ∈ ([1, 2, 3, 4, 5] : List Int32) → vp_in (x3 + k) L) (hfx : f11_keep FU  Mx = some (r, Mx')) (hfy : f12_keep FU  My = some (r, My')) {H : Heap} {locs : List Loc} {ls : Array Slot} (hP : va_P z.1 vwCl (pw (xd z b1) 339 b1 Mx) H) (hP2 : va_P z.1 vwCl (pw (yd z b2) 32 b2 My) H) (hS : va_S (Ax s) s.heap H locs) (hl : lv_has ls 4 [(0, .ref b), (1, .ref (b1 + 0)), (2, .ref (b2 + 0)), (3, .int x3)])
    (kk : ∀ (H : Heap) (locs : List Loc) (hP : va_P z.1 vwCl (pw (xd z b1) 339 b1 Mx') H) (hP2 : va_P z.1 vwCl (pw (yd z b2) 32 b2 My') H) (hS : va_S (Ax s) s.heap H locs), W p l e room_1 s m #[Value.ref b] below meth c H locs cells slots (lw_Z below #[Value.ref b] s) (F0 m 974 ls [])) : W p l e room_1 s m #[Value.ref b] below meth c H locs cells slots (lw_Z below #[Value.ref b] s) (F0 m 892 ls []) := by
  obtain ⟨hx, hb, hr, hml, hown, hts, hX, hbl, hlocks, hgv⟩ := id C0
  have CF : CallFix p m c code 4 s #[Value.ref b] lw_good R_law := ⟨hx, hb, hml, hown, fun w hw => hts w (List.mem_filter.mp hw).1⟩
  have hbA : ¬ Ax s b := Nat.not_le.mpr hbl
  refine lv_aload_n hx hb dL_law_892 rfl (lv_at hl 1 rfl) ?_
  refine lcV (As := []) CF G hP hP2 hS hb1 (Or.inr hb2) (Nat.le_of_ble_eq_true rfl) (xd_0 _ _) rfl (c11_keep hfx) y11_keep_w g_1103 rfl rfl rfl ⟨Nat.le_of_ble_eq_true rfl, Nat.le_of_ble_eq_true rfl⟩ hl.1 rfl (Nat.le_of_ble_eq_true rfl) dL_law_893 hcs (fun H locs hP hP2 hS => ?_)
  refine lv_aload_n hx hb dL_law_896 rfl (lv_at hl 2 rfl) ?_
  refine lcV (As := []) CF G hP2 hP hS (Nat.le_trans hb1 (Nat.le_trans (Nat.le_add_right _ _) hb2)) (Or.inl hb2) (Nat.le_of_ble_eq_true rfl) (yd_0 _ _) rfl (c12_keep hfy) y12_keep_w g_1689 rfl rfl rfl ⟨Nat.le_of_ble_eq_true rfl, Nat.le_of_ble_eq_true rfl⟩ hl.1 rfl (Nat.le_of_ble_eq_true rfl) dL_law_897 hcs (fun H locs hP2 hP hS => ?_)
  refine lv_icmp_eq (tgt := 974) hx hb dL_law_900 (by decide) (fun _ => ?_) (fun h => absurd rfl h)
  exact kk H locs hP hP2 hS
set_option maxHeartbeats 4000000 in
set_option maxRecDepth 100000 in
theorem lawc_25 {p : Program} {e : Env} {s : State} {m : MethodId} {below : List Frame} {meth : Method} {c : Code} {l : Launch} {b L : Nat} {xs : Nat → Int32} (hL : L ≤ 3072) (C0 : lw_At p s m meth c b L xs) {z : Zt} (G : Gx z (Ax s) s) {b1 b2 : Nat} (hb1 : s.heap.size ≤ b1) (hb2 : b1 + 339 ≤ b2) {cells slots : Nat} (hcs : cells ≤ 600000 ∧ slots ≤ 7302250) {FU : Nat} {Mx My Mx' My' : Mem} {r : Int32} {x3 : Int32} (hi : ∀ k : Int32, k ∈ ([1, 2, 3, 4, 5] : List Int32) → vp_in (x3 + k) L) (hfx : f11_undo FU  Mx = some (r, Mx')) (hfy : f12_undo FU  My = some (r, My')) {H : Heap} {locs : List Loc} {ls : Array Slot} (hP : va_P z.1 vwCl (pw (xd z b1) 339 b1 Mx) H) (hP2 : va_P z.1 vwCl (pw (yd z b2) 32 b2 My) H) (hS : va_S (Ax s) s.heap H locs) (hl : lv_has ls 4 [(0, .ref b), (1, .ref (b1 + 0)), (2, .ref (b2 + 0)), (3, .int x3)])
    (kk : ∀ (H : Heap) (locs : List Loc) (hP : va_P z.1 vwCl (pw (xd z b1) 339 b1 Mx') H) (hP2 : va_P z.1 vwCl (pw (yd z b2) 32 b2 My') H) (hS : va_S (Ax s) s.heap H locs), W p l e room_1 s m #[Value.ref b] below meth c H locs cells slots (lw_Z below #[Value.ref b] s) (F0 m 974 ls [])) : W p l e room_1 s m #[Value.ref b] below meth c H locs cells slots (lw_Z below #[Value.ref b] s) (F0 m 905 ls []) := by
  obtain ⟨hx, hb, hr, hml, hown, hts, hX, hbl, hlocks, hgv⟩ := id C0
  have CF : CallFix p m c code 4 s #[Value.ref b] lw_good R_law := ⟨hx, hb, hml, hown, fun w hw => hts w (List.mem_filter.mp hw).1⟩
  have hbA : ¬ Ax s b := Nat.not_le.mpr hbl
  refine lv_aload_n hx hb dL_law_905 rfl (lv_at hl 1 rfl) ?_
  refine lcV (As := []) CF G hP hP2 hS hb1 (Or.inr hb2) (Nat.le_of_ble_eq_true rfl) (xd_0 _ _) rfl (c11_undo hfx) y11_undo_w g_1107 rfl rfl rfl ⟨Nat.le_of_ble_eq_true rfl, Nat.le_of_ble_eq_true rfl⟩ hl.1 rfl (Nat.le_of_ble_eq_true rfl) dL_law_906 hcs (fun H locs hP hP2 hS => ?_)
  refine lv_aload_n hx hb dL_law_909 rfl (lv_at hl 2 rfl) ?_
  refine lcV (As := []) CF G hP2 hP hS (Nat.le_trans hb1 (Nat.le_trans (Nat.le_add_right _ _) hb2)) (Or.inl hb2) (Nat.le_of_ble_eq_true rfl) (yd_0 _ _) rfl (c12_undo hfy) y12_undo_w g_1693 rfl rfl rfl ⟨Nat.le_of_ble_eq_true rfl, Nat.le_of_ble_eq_true rfl⟩ hl.1 rfl (Nat.le_of_ble_eq_true rfl) dL_law_910 hcs (fun H locs hP2 hP hS => ?_)
  refine lv_icmp_eq (tgt := 974) hx hb dL_law_913 (by decide) (fun _ => ?_) (fun h => absurd rfl h)
  exact kk H locs hP hP2 hS
set_option maxHeartbeats 4000000 in
set_option maxRecDepth 100000 in
theorem lawc_26 {p : Program} {e : Env} {s : State} {m : MethodId} {below : List Frame} {meth : Method} {c : Code} {l : Launch} {b L : Nat} {xs : Nat → Int32} (hL : L ≤ 3072) (C0 : lw_At p s m meth c b L xs) {z : Zt} (G : Gx z (Ax s) s) {b1 b2 : Nat} (hb1 : s.heap.size ≤ b1) (hb2 : b1 + 339 ≤ b2) {cells slots : Nat} (hcs : cells ≤ 600000 ∧ slots ≤ 7302250) {FU : Nat} {Mx My Mx' My' : Mem} {r : Int32} {x3 : Int32} (hi : ∀ k : Int32, k ∈ ([1, 2, 3, 4, 5] : List Int32) → vp_in (x3 + k) L) (hfx : f11_check FU (xs (x3 + (1 : Int32)).toNatClampNeg) (xs (x3 + (2 : Int32)).toNatClampNeg) Mx = some (r, Mx')) (hfy : f12_check FU (xs (x3 + (1 : Int32)).toNatClampNeg) (xs (x3 + (2 : Int32)).toNatClampNeg) My = some (r, My')) {H : Heap} {locs : List Loc} {ls : Array Slot} (hP : va_P z.1 vwCl (pw (xd z b1) 339 b1 Mx) H) (hP2 : va_P z.1 vwCl (pw (yd z b2) 32 b2 My) H) (hS : va_S (Ax s) s.heap H locs) (hl : lv_has ls 4 [(0, .ref b), (1, .ref (b1 + 0)), (2, .ref (b2 + 0)), (3, .int x3)])
    (kk : ∀ (H : Heap) (locs : List Loc) (hP : va_P z.1 vwCl (pw (xd z b1) 339 b1 Mx') H) (hP2 : va_P z.1 vwCl (pw (yd z b2) 32 b2 My') H) (hS : va_S (Ax s) s.heap H locs), W p l e room_1 s m #[Value.ref b] below meth c H locs cells slots (lw_Z below #[Value.ref b] s) (F0 m 974 ls [])) : W p l e room_1 s m #[Value.ref b] below meth c H locs cells slots (lw_Z below #[Value.ref b] s) (F0 m 918 ls []) := by
  obtain ⟨hx, hb, hr, hml, hown, hts, hX, hbl, hlocks, hgv⟩ := id C0
  have CF : CallFix p m c code 4 s #[Value.ref b] lw_good R_law := ⟨hx, hb, hml, hown, fun w hw => hts w (List.mem_filter.mp hw).1⟩
  have hbA : ¬ Ax s b := Nat.not_le.mpr hbl
  refine lv_aload_n hx hb dL_law_918 rfl (lv_at hl 1 rfl) ?_
  refine lv_aload_n hx hb dL_law_919 rfl (lv_at hl 0 rfl) ?_
  refine lv_iload_n hx hb dL_law_920 rfl (lv_at hl 3 rfl) ?_
  refine lv_iconst (v := (1 : Int32)) hx hb dL_law_921 (by decide) ?_
  refine lv_iadd hx hb dL_law_922 ?_
  refine va_sld hx hb hX hbl hbA hS (hi 1 (by decide)) dL_law_923 ?_
  refine lv_aload_n hx hb dL_law_924 rfl (lv_at hl 0 rfl) ?_
  refine lv_iload_n hx hb dL_law_925 rfl (lv_at hl 3 rfl) ?_
  refine lv_iconst (v := (2 : Int32)) hx hb dL_law_926 (by decide) ?_
  refine lv_iadd hx hb dL_law_927 ?_
  refine va_sld hx hb hX hbl hbA hS (hi 2 (by decide)) dL_law_928 ?_
  refine lcV (As := [.int (xs (x3 + (1 : Int32)).toNatClampNeg), .int (xs (x3 + (2 : Int32)).toNatClampNeg)]) CF G hP hP2 hS hb1 (Or.inr hb2) (Nat.le_of_ble_eq_true rfl) (xd_0 _ _) rfl (c11_check hfx) y11_check_w g_1111 rfl rfl rfl ⟨Nat.le_of_ble_eq_true rfl, Nat.le_of_ble_eq_true rfl⟩ hl.1 rfl (Nat.le_of_ble_eq_true rfl) dL_law_929 hcs (fun H locs hP hP2 hS => ?_)
  refine lv_aload_n hx hb dL_law_932 rfl (lv_at hl 2 rfl) ?_
  refine lv_aload_n hx hb dL_law_933 rfl (lv_at hl 0 rfl) ?_
  refine lv_iload_n hx hb dL_law_934 rfl (lv_at hl 3 rfl) ?_
  refine lv_iconst (v := (1 : Int32)) hx hb dL_law_935 (by decide) ?_
  refine lv_iadd hx hb dL_law_936 ?_
  refine va_sld hx hb hX hbl hbA hS (hi 1 (by decide)) dL_law_937 ?_
  refine lv_aload_n hx hb dL_law_938 rfl (lv_at hl 0 rfl) ?_
  refine lv_iload_n hx hb dL_law_939 rfl (lv_at hl 3 rfl) ?_
  refine lv_iconst (v := (2 : Int32)) hx hb dL_law_940 (by decide) ?_
  refine lv_iadd hx hb dL_law_941 ?_
  refine va_sld hx hb hX hbl hbA hS (hi 2 (by decide)) dL_law_942 ?_
  refine lcV (As := [.int (xs (x3 + (1 : Int32)).toNatClampNeg), .int (xs (x3 + (2 : Int32)).toNatClampNeg)]) CF G hP2 hP hS (Nat.le_trans hb1 (Nat.le_trans (Nat.le_add_right _ _) hb2)) (Or.inl hb2) (Nat.le_of_ble_eq_true rfl) (yd_0 _ _) rfl (c12_check hfy) y12_check_w g_1697 rfl rfl rfl ⟨Nat.le_of_ble_eq_true rfl, Nat.le_of_ble_eq_true rfl⟩ hl.1 rfl (Nat.le_of_ble_eq_true rfl) dL_law_943 hcs (fun H locs hP2 hP hS => ?_)
  refine lv_icmp_eq (tgt := 974) hx hb dL_law_946 (by decide) (fun _ => ?_) (fun h => absurd rfl h)
  exact kk H locs hP hP2 hS
set_option maxHeartbeats 4000000 in
set_option maxRecDepth 100000 in
theorem lawc_27 {p : Program} {e : Env} {s : State} {m : MethodId} {below : List Frame} {meth : Method} {c : Code} {l : Launch} {b L : Nat} {xs : Nat → Int32} (hL : L ≤ 3072) (C0 : lw_At p s m meth c b L xs) {z : Zt} (G : Gx z (Ax s) s) {b1 b2 : Nat} (hb1 : s.heap.size ≤ b1) (hb2 : b1 + 339 ≤ b2) {cells slots : Nat} (hcs : cells ≤ 600000 ∧ slots ≤ 7302250) {FU : Nat} {Mx My Mx' My' : Mem} {r : Int32} {x3 : Int32} (hi : ∀ k : Int32, k ∈ ([1, 2, 3, 4, 5] : List Int32) → vp_in (x3 + k) L) (hfx : f11_count FU (xs (x3 + (1 : Int32)).toNatClampNeg) Mx = some (r, Mx')) (hfy : f12_count FU (xs (x3 + (1 : Int32)).toNatClampNeg) My = some (r, My')) {H : Heap} {locs : List Loc} {ls : Array Slot} (hP : va_P z.1 vwCl (pw (xd z b1) 339 b1 Mx) H) (hP2 : va_P z.1 vwCl (pw (yd z b2) 32 b2 My) H) (hS : va_S (Ax s) s.heap H locs) (hl : lv_has ls 4 [(0, .ref b), (1, .ref (b1 + 0)), (2, .ref (b2 + 0)), (3, .int x3)])
    (kk : ∀ (H : Heap) (locs : List Loc) (hP : va_P z.1 vwCl (pw (xd z b1) 339 b1 Mx') H) (hP2 : va_P z.1 vwCl (pw (yd z b2) 32 b2 My') H) (hS : va_S (Ax s) s.heap H locs), W p l e room_1 s m #[Value.ref b] below meth c H locs cells slots (lw_Z below #[Value.ref b] s) (F0 m 974 ls [])) : W p l e room_1 s m #[Value.ref b] below meth c H locs cells slots (lw_Z below #[Value.ref b] s) (F0 m 951 ls []) := by
  obtain ⟨hx, hb, hr, hml, hown, hts, hX, hbl, hlocks, hgv⟩ := id C0
  have CF : CallFix p m c code 4 s #[Value.ref b] lw_good R_law := ⟨hx, hb, hml, hown, fun w hw => hts w (List.mem_filter.mp hw).1⟩
  have hbA : ¬ Ax s b := Nat.not_le.mpr hbl
  refine lv_aload_n hx hb dL_law_951 rfl (lv_at hl 1 rfl) ?_
  refine lv_aload_n hx hb dL_law_952 rfl (lv_at hl 0 rfl) ?_
  refine lv_iload_n hx hb dL_law_953 rfl (lv_at hl 3 rfl) ?_
  refine lv_iconst (v := (1 : Int32)) hx hb dL_law_954 (by decide) ?_
  refine lv_iadd hx hb dL_law_955 ?_
  refine va_sld hx hb hX hbl hbA hS (hi 1 (by decide)) dL_law_956 ?_
  refine lcV (As := [.int (xs (x3 + (1 : Int32)).toNatClampNeg)]) CF G hP hP2 hS hb1 (Or.inr hb2) (Nat.le_of_ble_eq_true rfl) (xd_0 _ _) rfl (c11_count hfx) y11_count_w g_1115 rfl rfl rfl ⟨Nat.le_of_ble_eq_true rfl, Nat.le_of_ble_eq_true rfl⟩ hl.1 rfl (Nat.le_of_ble_eq_true rfl) dL_law_957 hcs (fun H locs hP hP2 hS => ?_)
  refine lv_aload_n hx hb dL_law_960 rfl (lv_at hl 2 rfl) ?_
  refine lv_aload_n hx hb dL_law_961 rfl (lv_at hl 0 rfl) ?_
  refine lv_iload_n hx hb dL_law_962 rfl (lv_at hl 3 rfl) ?_
  refine lv_iconst (v := (1 : Int32)) hx hb dL_law_963 (by decide) ?_
  refine lv_iadd hx hb dL_law_964 ?_
  refine va_sld hx hb hX hbl hbA hS (hi 1 (by decide)) dL_law_965 ?_
  refine lcV (As := [.int (xs (x3 + (1 : Int32)).toNatClampNeg)]) CF G hP2 hP hS (Nat.le_trans hb1 (Nat.le_trans (Nat.le_add_right _ _) hb2)) (Or.inl hb2) (Nat.le_of_ble_eq_true rfl) (yd_0 _ _) rfl (c12_count hfy) y12_count_w g_1701 rfl rfl rfl ⟨Nat.le_of_ble_eq_true rfl, Nat.le_of_ble_eq_true rfl⟩ hl.1 rfl (Nat.le_of_ble_eq_true rfl) dL_law_966 hcs (fun H locs hP2 hP hS => ?_)
  refine lv_icmp_eq (tgt := 974) hx hb dL_law_969 (by decide) (fun _ => ?_) (fun h => absurd rfl h)
  exact kk H locs hP hP2 hS
set_option maxHeartbeats 8000000 in
set_option maxRecDepth 100000 in
theorem law_loop {p : Program} {e : Env} {s : State} {m : MethodId} {below : List Frame} {meth : Method} {c : Code} {l : Launch} {b L : Nat} {xs : Nat → Int32} (hL : L ≤ 3072) (C0 : lw_At p s m meth c b L xs) {z : Zt} (G : Gx z (Ax s) s) {b1 b2 : Nat} (hb1 : s.heap.size ≤ b1) (hb2 : b1 + 339 ≤ b2) {cells slots : Nat} (hcs : cells ≤ 600000 ∧ slots ≤ 7302250) {Inv : Nat → Mem → Mem → Prop} {FU : Nat} (hmo : ∀ t Mx My, Inv t Mx My → Inv (t + 6) Mx My) (hst : Steps2 Inv FU) (n : Nat) : ∀ (t : Nat) (x3 : Int32) (Mx My : Mem) (H : Heap) (locs : List Loc) (ls : Array Slot), t ≤ L + 6 → L + 7 - t ≤ n → x3 = nI t → Inv t Mx My → ∀ (hP : va_P z.1 vwCl (pw (xd z b1) 339 b1 Mx) H) (hP2 : va_P z.1 vwCl (pw (yd z b2) 32 b2 My) H) (hS : va_S (Ax s) s.heap H locs) (hl : lv_has ls 4 [(0, .ref b), (1, .ref (b1 + 0)), (2, .ref (b2 + 0)), (3, .int x3)]), W p l e room_1 s m #[Value.ref b] below meth c H locs cells slots (lw_Z below #[Value.ref b] s) (F0 m 18 ls []) := by
  obtain ⟨hx, hb, hr, hml, hown, hts, hX, hbl, hlocks, hgv⟩ := id C0
  have hbA : ¬ Ax s b := Nat.not_le.mpr hbl
  induction n with
  | zero => intro t x3 Mx My H locs ls h1 h2; omega
  | succ n ih =>
    intro t x3 Mx My H locs ls h1 h2 ex3 hI hP hP2 hS hl
    refine lv_iload_n hx hb dL_law_18 rfl (lv_at hl 3 rfl) ?_
    refine lv_aload_n hx hb dL_law_19 rfl (lv_at hl 0 rfl) ?_
    refine va_slen hx hb hX hbl hbA hS dL_law_20 ?_
    refine lv_bipush (v := (6 : Int32)) hx hb dL_law_21 (by decide) ?_
    refine lv_isub hx hb dL_law_23 ?_
    refine lv_icmp_gt (tgt := 980) hx hb dL_law_24 (by decide) (fun _ => ?_) (fun hc => ?_)
    · refine lv_iconst (v := (1 : Int32)) hx hb dL_law_980 (by decide) ?_
      refine va_forget (fun q hq => hS.2.2 q hq) ?_
      refine W.widen hcs.1 hcs.2 ?_
      exact lw_ret hx hb hr hlocks dL_law_981
    · rw [ex3] at hc
      have hlt : t + 6 ≤ L := lawIdx hL h1 hc
      have hi : ∀ k : Int32, k ∈ ([1, 2, 3, 4, 5] : List Int32) → vp_in (x3 + k) L := by
        intro k hk
        have e : ∃ j : Nat, j < 6 ∧ k = nI j := by
          simp only [List.mem_cons, List.not_mem_nil, or_false] at hk
          rcases hk with rfl | rfl | rfl | rfl | rfl
          · exact ⟨1, by decide, by decide⟩
          · exact ⟨2, by decide, by decide⟩
          · exact ⟨3, by decide, by decide⟩
          · exact ⟨4, by decide, by decide⟩
          · exact ⟨5, by decide, by decide⟩
        obtain ⟨j, hj, rfl⟩ := e
        rw [ex3, nI_add]
        exact vp_in_nI (by omega) (by omega)
      have hi0 : vp_in x3 L := by rw [ex3]; exact vp_in_nI (by omega) (by omega)
      refine lv_aload_n hx hb dL_law_27 rfl (lv_at hl 0 rfl) ?_
      refine lv_iload_n hx hb dL_law_28 rfl (lv_at hl 3 rfl) ?_
      refine va_sld hx hb hX hbl hbA hS hi0 dL_law_29 ?_
      refine lv_bipush (v := (31 : Int32)) hx hb dL_law_30 (by decide) ?_
      refine lv_iand hx hb dL_law_32 ?_
      refine lv_topi (fun w ew => ?_)
      have nx : ∀ (Mx' My' : Mem), Inv (t + 6) Mx' My' → ∀ (H : Heap) (locs : List Loc) (hP : va_P z.1 vwCl (pw (xd z b1) 339 b1 Mx') H) (hP2 : va_P z.1 vwCl (pw (yd z b2) 32 b2 My') H) (hS : va_S (Ax s) s.heap H locs), W p l e room_1 s m #[Value.ref b] below meth c H locs cells slots (lw_Z below #[Value.ref b] s) (F0 m 974 ls []) := by
        intro Mx' My' hI' H locs hP hP2 hS
        obtain ⟨x4, ex4⟩ : ∃ v : Int32, v = x3 + (6 : Int32) := ⟨_, rfl⟩
        refine lv_iinc (v := x4) (lv' := [(3, .int x4), (0, .ref b), (1, .ref (b1 + 0)), (2, .ref (b2 + 0))]) hx hb dL_law_974 hl (k := 3) rfl (by rw [ex4]; rfl) (by decide) rfl (fun ls hl => ?_)
        refine lv_goto (tgt := 18) hx hb dL_law_977 (by decide) ?_
        exact ih (t + 6) x4 Mx' My' H locs ls (by omega) (by omega) (by rw [ex4, ex3]; exact nI_add t 6) hI' hP hP2 hS (lv_sub hl [1, 2, 3, 0] rfl)
      by_cases c0 : w = (0 : Int32)
      · refine lv_tableIn (off := 127) (tgt := 160) hx hb dL_law_33 (by rw [c0]; decide) (by rw [c0]; decide) (by rw [c0]; rfl) (by decide) ?_
        obtain ⟨r, Mx', My', hfx, hfy, hI'⟩ := hst.1 t Mx My (xs (x3 + (1 : Int32)).toNatClampNeg) (xs (x3 + (2 : Int32)).toNatClampNeg) (by omega) hI
        exact lawc_0 hL C0 G hb1 hb2 hcs hi hfx hfy hP hP2 hS hl (nx Mx' My' hI')
      by_cases c1 : w = (1 : Int32)
      · refine lv_tableIn (off := 160) (tgt := 193) hx hb dL_law_33 (by rw [c1]; decide) (by rw [c1]; decide) (by rw [c1]; rfl) (by decide) ?_
        obtain ⟨r, Mx', My', hfx, hfy, hI'⟩ := hst.2.1 t Mx My (xs (x3 + (1 : Int32)).toNatClampNeg) (xs (x3 + (2 : Int32)).toNatClampNeg) (xs (x3 + (3 : Int32)).toNatClampNeg) (by omega) hI
        exact lawc_1 hL C0 G hb1 hb2 hcs hi hfx hfy hP hP2 hS hl (nx Mx' My' hI')
      by_cases c2 : w = (2 : Int32)
      · refine lv_tableIn (off := 203) (tgt := 236) hx hb dL_law_33 (by rw [c2]; decide) (by rw [c2]; decide) (by rw [c2]; rfl) (by decide) ?_
        obtain ⟨r, Mx', My', hfx, hfy, hI'⟩ := hst.2.2.1 t Mx My (xs (x3 + (1 : Int32)).toNatClampNeg) (xs (x3 + (2 : Int32)).toNatClampNeg) (xs (x3 + (3 : Int32)).toNatClampNeg) (xs (x3 + (4 : Int32)).toNatClampNeg) (xs (x3 + (5 : Int32)).toNatClampNeg) (by omega) hI
        exact lawc_2 hL C0 G hb1 hb2 hcs hi hfx hfy hP hP2 hS hl (nx Mx' My' hI')
      by_cases c3 : w = (3 : Int32)
      · refine lv_tableIn (off := 266) (tgt := 299) hx hb dL_law_33 (by rw [c3]; decide) (by rw [c3]; decide) (by rw [c3]; rfl) (by decide) ?_
        obtain ⟨r, Mx', My', hfx, hfy, hI'⟩ := hst.2.2.2.1 t Mx My (xs (x3 + (1 : Int32)).toNatClampNeg) (by omega) hI
        exact lawc_3 hL C0 G hb1 hb2 hcs hi hfx hfy hP hP2 hS hl (nx Mx' My' hI')
      by_cases c4 : w = (4 : Int32)
      · refine lv_tableIn (off := 289) (tgt := 322) hx hb dL_law_33 (by rw [c4]; decide) (by rw [c4]; decide) (by rw [c4]; rfl) (by decide) ?_
        obtain ⟨r, Mx', My', hfx, hfy, hI'⟩ := hst.2.2.2.2.1 t Mx My (xs (x3 + (1 : Int32)).toNatClampNeg) (by omega) hI
        exact lawc_4 hL C0 G hb1 hb2 hcs hi hfx hfy hP hP2 hS hl (nx Mx' My' hI')
      by_cases c5 : w = (5 : Int32)
      · refine lv_tableIn (off := 312) (tgt := 345) hx hb dL_law_33 (by rw [c5]; decide) (by rw [c5]; decide) (by rw [c5]; rfl) (by decide) ?_
        obtain ⟨r, Mx', My', hfx, hfy, hI'⟩ := hst.2.2.2.2.2.1 t Mx My (xs (x3 + (1 : Int32)).toNatClampNeg) (by omega) hI
        exact lawc_5 hL C0 G hb1 hb2 hcs hi hfx hfy hP hP2 hS hl (nx Mx' My' hI')
      by_cases c6 : w = (6 : Int32)
      · refine lv_tableIn (off := 335) (tgt := 368) hx hb dL_law_33 (by rw [c6]; decide) (by rw [c6]; decide) (by rw [c6]; rfl) (by decide) ?_
        obtain ⟨r, Mx', My', hfx, hfy, hI'⟩ := hst.2.2.2.2.2.2.1 t Mx My (xs (x3 + (1 : Int32)).toNatClampNeg) (by omega) hI
        exact lawc_6 hL C0 G hb1 hb2 hcs hi hfx hfy hP hP2 hS hl (nx Mx' My' hI')
      by_cases c7 : w = (7 : Int32)
      · refine lv_tableIn (off := 358) (tgt := 391) hx hb dL_law_33 (by rw [c7]; decide) (by rw [c7]; decide) (by rw [c7]; rfl) (by decide) ?_
        obtain ⟨r, Mx', My', hfx, hfy, hI'⟩ := hst.2.2.2.2.2.2.2.1 t Mx My (xs (x3 + (1 : Int32)).toNatClampNeg) (xs (x3 + (2 : Int32)).toNatClampNeg) (by omega) hI
        exact lawc_7 hL C0 G hb1 hb2 hcs hi hfx hfy hP hP2 hS hl (nx Mx' My' hI')
      by_cases c8 : w = (8 : Int32)
      · refine lv_tableIn (off := 391) (tgt := 424) hx hb dL_law_33 (by rw [c8]; decide) (by rw [c8]; decide) (by rw [c8]; rfl) (by decide) ?_
        obtain ⟨r, Mx', My', hfx, hfy, hI'⟩ := hst.2.2.2.2.2.2.2.2.1 t Mx My (xs (x3 + (1 : Int32)).toNatClampNeg) (xs (x3 + (2 : Int32)).toNatClampNeg) (xs (x3 + (3 : Int32)).toNatClampNeg) (by omega) hI
        exact lawc_8 hL C0 G hb1 hb2 hcs hi hfx hfy hP hP2 hS hl (nx Mx' My' hI')
      by_cases c9 : w = (9 : Int32)
      · refine lv_tableIn (off := 434) (tgt := 467) hx hb dL_law_33 (by rw [c9]; decide) (by rw [c9]; decide) (by rw [c9]; rfl) (by decide) ?_
        obtain ⟨r, Mx', My', hfx, hfy, hI'⟩ := hst.2.2.2.2.2.2.2.2.2.1 t Mx My (xs (x3 + (1 : Int32)).toNatClampNeg) (xs (x3 + (2 : Int32)).toNatClampNeg) (by omega) hI
        exact lawc_9 hL C0 G hb1 hb2 hcs hi hfx hfy hP hP2 hS hl (nx Mx' My' hI')
      by_cases c10 : w = (10 : Int32)
      · refine lv_tableIn (off := 467) (tgt := 500) hx hb dL_law_33 (by rw [c10]; decide) (by rw [c10]; decide) (by rw [c10]; rfl) (by decide) ?_
        obtain ⟨r, Mx', My', hfx, hfy, hI'⟩ := hst.2.2.2.2.2.2.2.2.2.2.1 t Mx My (xs (x3 + (1 : Int32)).toNatClampNeg) (xs (x3 + (2 : Int32)).toNatClampNeg) (by omega) hI
        exact lawc_10 hL C0 G hb1 hb2 hcs hi hfx hfy hP hP2 hS hl (nx Mx' My' hI')
      by_cases c11 : w = (11 : Int32)
      · refine lv_tableIn (off := 500) (tgt := 533) hx hb dL_law_33 (by rw [c11]; decide) (by rw [c11]; decide) (by rw [c11]; rfl) (by decide) ?_
        obtain ⟨r, Mx', My', hfx, hfy, hI'⟩ := hst.2.2.2.2.2.2.2.2.2.2.2.1 t Mx My (xs (x3 + (1 : Int32)).toNatClampNeg) (by omega) hI
        exact lawc_11 hL C0 G hb1 hb2 hcs hi hfx hfy hP hP2 hS hl (nx Mx' My' hI')
      by_cases c12 : w = (12 : Int32)
      · refine lv_tableIn (off := 523) (tgt := 556) hx hb dL_law_33 (by rw [c12]; decide) (by rw [c12]; decide) (by rw [c12]; rfl) (by decide) ?_
        obtain ⟨r, Mx', My', hfx, hfy, hI'⟩ := hst.2.2.2.2.2.2.2.2.2.2.2.2.1 t Mx My (xs (x3 + (1 : Int32)).toNatClampNeg) (by omega) hI
        exact lawc_12 hL C0 G hb1 hb2 hcs hi hfx hfy hP hP2 hS hl (nx Mx' My' hI')
      by_cases c13 : w = (13 : Int32)
      · refine lv_tableIn (off := 546) (tgt := 579) hx hb dL_law_33 (by rw [c13]; decide) (by rw [c13]; decide) (by rw [c13]; rfl) (by decide) ?_
        obtain ⟨r, Mx', My', hfx, hfy, hI'⟩ := hst.2.2.2.2.2.2.2.2.2.2.2.2.2.1 t Mx My  (by omega) hI
        exact lawc_13 hL C0 G hb1 hb2 hcs hi hfx hfy hP hP2 hS hl (nx Mx' My' hI')
      by_cases c14 : w = (14 : Int32)
      · refine lv_tableIn (off := 559) (tgt := 592) hx hb dL_law_33 (by rw [c14]; decide) (by rw [c14]; decide) (by rw [c14]; rfl) (by decide) ?_
        obtain ⟨r, Mx', My', hfx, hfy, hI'⟩ := hst.2.2.2.2.2.2.2.2.2.2.2.2.2.2.1 t Mx My (xs (x3 + (1 : Int32)).toNatClampNeg) (by omega) hI
        exact lawc_14 hL C0 G hb1 hb2 hcs hi hfx hfy hP hP2 hS hl (nx Mx' My' hI')
      by_cases c15 : w = (15 : Int32)
      · refine lv_tableIn (off := 582) (tgt := 615) hx hb dL_law_33 (by rw [c15]; decide) (by rw [c15]; decide) (by rw [c15]; rfl) (by decide) ?_
        obtain ⟨r, Mx', My', hfx, hfy, hI'⟩ := hst.2.2.2.2.2.2.2.2.2.2.2.2.2.2.2.1 t Mx My (xs (x3 + (1 : Int32)).toNatClampNeg) (xs (x3 + (2 : Int32)).toNatClampNeg) (by omega) hI
        exact lawc_15 hL C0 G hb1 hb2 hcs hi hfx hfy hP hP2 hS hl (nx Mx' My' hI')
      by_cases c16 : w = (16 : Int32)
      · refine lv_tableIn (off := 615) (tgt := 648) hx hb dL_law_33 (by rw [c16]; decide) (by rw [c16]; decide) (by rw [c16]; rfl) (by decide) ?_
        obtain ⟨r, Mx', My', hfx, hfy, hI'⟩ := hst.2.2.2.2.2.2.2.2.2.2.2.2.2.2.2.2.1 t Mx My (xs (x3 + (1 : Int32)).toNatClampNeg) (xs (x3 + (2 : Int32)).toNatClampNeg) (by omega) hI
        exact lawc_16 hL C0 G hb1 hb2 hcs hi hfx hfy hP hP2 hS hl (nx Mx' My' hI')
      by_cases c17 : w = (17 : Int32)
      · refine lv_tableIn (off := 648) (tgt := 681) hx hb dL_law_33 (by rw [c17]; decide) (by rw [c17]; decide) (by rw [c17]; rfl) (by decide) ?_
        obtain ⟨r, Mx', My', hfx, hfy, hI'⟩ := hst.2.2.2.2.2.2.2.2.2.2.2.2.2.2.2.2.2.1 t Mx My (xs (x3 + (1 : Int32)).toNatClampNeg) (xs (x3 + (2 : Int32)).toNatClampNeg) (xs (x3 + (3 : Int32)).toNatClampNeg) (by omega) hI
        exact lawc_17 hL C0 G hb1 hb2 hcs hi hfx hfy hP hP2 hS hl (nx Mx' My' hI')
      by_cases c18 : w = (18 : Int32)
      · refine lv_tableIn (off := 691) (tgt := 724) hx hb dL_law_33 (by rw [c18]; decide) (by rw [c18]; decide) (by rw [c18]; rfl) (by decide) ?_
        obtain ⟨r, Mx', My', hfx, hfy, hI'⟩ := hst.2.2.2.2.2.2.2.2.2.2.2.2.2.2.2.2.2.2.1 t Mx My (xs (x3 + (1 : Int32)).toNatClampNeg) (xs (x3 + (2 : Int32)).toNatClampNeg) (by omega) hI
        exact lawc_18 hL C0 G hb1 hb2 hcs hi hfx hfy hP hP2 hS hl (nx Mx' My' hI')
      by_cases c19 : w = (19 : Int32)
      · refine lv_tableIn (off := 724) (tgt := 757) hx hb dL_law_33 (by rw [c19]; decide) (by rw [c19]; decide) (by rw [c19]; rfl) (by decide) ?_
        obtain ⟨r, Mx', My', hfx, hfy, hI'⟩ := hst.2.2.2.2.2.2.2.2.2.2.2.2.2.2.2.2.2.2.2.1 t Mx My (xs (x3 + (1 : Int32)).toNatClampNeg) (xs (x3 + (2 : Int32)).toNatClampNeg) (by omega) hI
        exact lawc_19 hL C0 G hb1 hb2 hcs hi hfx hfy hP hP2 hS hl (nx Mx' My' hI')
      by_cases c20 : w = (20 : Int32)
      · refine lv_tableIn (off := 757) (tgt := 790) hx hb dL_law_33 (by rw [c20]; decide) (by rw [c20]; decide) (by rw [c20]; rfl) (by decide) ?_
        obtain ⟨r, Mx', My', hfx, hfy, hI'⟩ := hst.2.2.2.2.2.2.2.2.2.2.2.2.2.2.2.2.2.2.2.2.1 t Mx My (xs (x3 + (1 : Int32)).toNatClampNeg) (xs (x3 + (2 : Int32)).toNatClampNeg) (by omega) hI
        exact lawc_20 hL C0 G hb1 hb2 hcs hi hfx hfy hP hP2 hS hl (nx Mx' My' hI')
      by_cases c21 : w = (21 : Int32)
      · refine lv_tableIn (off := 790) (tgt := 823) hx hb dL_law_33 (by rw [c21]; decide) (by rw [c21]; decide) (by rw [c21]; rfl) (by decide) ?_
        obtain ⟨r, Mx', My', hfx, hfy, hI'⟩ := hst.2.2.2.2.2.2.2.2.2.2.2.2.2.2.2.2.2.2.2.2.2.1 t Mx My (xs (x3 + (1 : Int32)).toNatClampNeg) (by omega) hI
        exact lawc_21 hL C0 G hb1 hb2 hcs hi hfx hfy hP hP2 hS hl (nx Mx' My' hI')
      by_cases c22 : w = (22 : Int32)
      · refine lv_tableIn (off := 813) (tgt := 846) hx hb dL_law_33 (by rw [c22]; decide) (by rw [c22]; decide) (by rw [c22]; rfl) (by decide) ?_
        obtain ⟨r, Mx', My', hfx, hfy, hI'⟩ := hst.2.2.2.2.2.2.2.2.2.2.2.2.2.2.2.2.2.2.2.2.2.2.1 t Mx My (xs (x3 + (1 : Int32)).toNatClampNeg) (by omega) hI
        exact lawc_22 hL C0 G hb1 hb2 hcs hi hfx hfy hP hP2 hS hl (nx Mx' My' hI')
      by_cases c23 : w = (23 : Int32)
      · refine lv_tableIn (off := 836) (tgt := 869) hx hb dL_law_33 (by rw [c23]; decide) (by rw [c23]; decide) (by rw [c23]; rfl) (by decide) ?_
        obtain ⟨r, Mx', My', hfx, hfy, hI'⟩ := hst.2.2.2.2.2.2.2.2.2.2.2.2.2.2.2.2.2.2.2.2.2.2.2.1 t Mx My (xs (x3 + (1 : Int32)).toNatClampNeg) (by omega) hI
        exact lawc_23 hL C0 G hb1 hb2 hcs hi hfx hfy hP hP2 hS hl (nx Mx' My' hI')
      by_cases c24 : w = (24 : Int32)
      · refine lv_tableIn (off := 859) (tgt := 892) hx hb dL_law_33 (by rw [c24]; decide) (by rw [c24]; decide) (by rw [c24]; rfl) (by decide) ?_
        obtain ⟨r, Mx', My', hfx, hfy, hI'⟩ := hst.2.2.2.2.2.2.2.2.2.2.2.2.2.2.2.2.2.2.2.2.2.2.2.2.1 t Mx My  (by omega) hI
        exact lawc_24 hL C0 G hb1 hb2 hcs hi hfx hfy hP hP2 hS hl (nx Mx' My' hI')
      by_cases c25 : w = (25 : Int32)
      · refine lv_tableIn (off := 872) (tgt := 905) hx hb dL_law_33 (by rw [c25]; decide) (by rw [c25]; decide) (by rw [c25]; rfl) (by decide) ?_
        obtain ⟨r, Mx', My', hfx, hfy, hI'⟩ := hst.2.2.2.2.2.2.2.2.2.2.2.2.2.2.2.2.2.2.2.2.2.2.2.2.2.1 t Mx My  (by omega) hI
        exact lawc_25 hL C0 G hb1 hb2 hcs hi hfx hfy hP hP2 hS hl (nx Mx' My' hI')
      by_cases c26 : w = (26 : Int32)
      · refine lv_tableIn (off := 885) (tgt := 918) hx hb dL_law_33 (by rw [c26]; decide) (by rw [c26]; decide) (by rw [c26]; rfl) (by decide) ?_
        obtain ⟨r, Mx', My', hfx, hfy, hI'⟩ := hst.2.2.2.2.2.2.2.2.2.2.2.2.2.2.2.2.2.2.2.2.2.2.2.2.2.2.1 t Mx My (xs (x3 + (1 : Int32)).toNatClampNeg) (xs (x3 + (2 : Int32)).toNatClampNeg) (by omega) hI
        exact lawc_26 hL C0 G hb1 hb2 hcs hi hfx hfy hP hP2 hS hl (nx Mx' My' hI')
      by_cases c27 : w = (27 : Int32)
      · refine lv_tableIn (off := 918) (tgt := 951) hx hb dL_law_33 (by rw [c27]; decide) (by rw [c27]; decide) (by rw [c27]; rfl) (by decide) ?_
        obtain ⟨r, Mx', My', hfx, hfy, hI'⟩ := hst.2.2.2.2.2.2.2.2.2.2.2.2.2.2.2.2.2.2.2.2.2.2.2.2.2.2.2 t Mx My (xs (x3 + (1 : Int32)).toNatClampNeg) (by omega) hI
        exact lawc_27 hL C0 G hb1 hb2 hcs hi hfx hfy hP hP2 hS hl (nx Mx' My' hI')
      refine lv_tableOut (tgt := 974) hx hb dL_law_33 (by have z0 : ¬ w.toInt = 0 := tsn c0; have z1 : ¬ w.toInt = 1 := tsn c1; have z2 : ¬ w.toInt = 2 := tsn c2; have z3 : ¬ w.toInt = 3 := tsn c3; have z4 : ¬ w.toInt = 4 := tsn c4; have z5 : ¬ w.toInt = 5 := tsn c5; have z6 : ¬ w.toInt = 6 := tsn c6; have z7 : ¬ w.toInt = 7 := tsn c7; have z8 : ¬ w.toInt = 8 := tsn c8; have z9 : ¬ w.toInt = 9 := tsn c9; have z10 : ¬ w.toInt = 10 := tsn c10; have z11 : ¬ w.toInt = 11 := tsn c11; have z12 : ¬ w.toInt = 12 := tsn c12; have z13 : ¬ w.toInt = 13 := tsn c13; have z14 : ¬ w.toInt = 14 := tsn c14; have z15 : ¬ w.toInt = 15 := tsn c15; have z16 : ¬ w.toInt = 16 := tsn c16; have z17 : ¬ w.toInt = 17 := tsn c17; have z18 : ¬ w.toInt = 18 := tsn c18; have z19 : ¬ w.toInt = 19 := tsn c19; have z20 : ¬ w.toInt = 20 := tsn c20; have z21 : ¬ w.toInt = 21 := tsn c21; have z22 : ¬ w.toInt = 22 := tsn c22; have z23 : ¬ w.toInt = 23 := tsn c23; have z24 : ¬ w.toInt = 24 := tsn c24; have z25 : ¬ w.toInt = 25 := tsn c25; have z26 : ¬ w.toInt = 26 := tsn c26; have z27 : ¬ w.toInt = 27 := tsn c27; omega) (by decide) ?_
      exact nx Mx My (hmo t Mx My hI) H locs hP hP2 hS
