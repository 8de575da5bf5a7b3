/-! THE LAW'S BODY as a function over the abstract heap (written by law.py), and a call of a method with a table. -/
theorem okL_rests {l : Launch} (hfl : l.stackTraces = false) {n : Nat} {v0 : Nat} {v1 v2 v3 v4 : Int32} {v5 : Nat} {h : qH} {p : Int32 × qH} (hyp : fL_rests n v0 v1 v2 v3 v4 v5 h = some p) : q_MW l 9 yL_rests cL_rests 7 (some .int) [.ref v0, .int v1, .int v2, .int v3, .int v4, .ref v5] h (some (.int p.1)) p.2 := by
  unfold fL_rests at hyp
  split at hyp
  · rename_i p1 e1
    refine q_bind hyp (fun h2 e2 hyp => ?_)
    cases hyp
    exact okL_restsR e1 e2
  · refine q_bind hyp (fun h2 e2 hyp => ?_)
    cases hyp
    exact okL_restsT hfl e2
set_option maxHeartbeats 2000000 in
theorem q_callSW {l : Launch} {d : Nat} {y : MethodName} {cc : ByteArray} {nL : Nat} {ret : Option FieldType} {r : Option Value} {h' : qH} {pc : Nat} {ls : List (Nat × Value)} {st : List Value} {h : qH} {i d2 : Nat} {as : List Value} {r2 : Option Value} {h1 : qH} (hk : Cond.methodLink y.cls i yL_rests ∈ q_tbl) (hM : q_MW l d2 yL_rests cL_rests 7 (some .int) as h r2 h1) (hdd : d2 + 1 ≤ d) (hn : as.length = 6) (hw : (st.map fun v => v.category).sum ≤ 8) (hd : decode cc pc = .ok (.invokestatic i, 3))
    (kk : q_W l d y cc nL ret r h' (pc + 3) ls (r2.toList ++ st) h1) : q_W l d y cc nL ret r h' pc ls (as.reverse ++ st) h := by
  intro h2
  obtain ⟨m1, m2, hM⟩ := hM h2
  obtain ⟨k1, k2, k3⟩ := kk (Nat.le_trans h2 m1)
  refine ⟨by omega, by omega, fun G p e R s m args below meth c E H locs cells slots mc ms lc hR hlo e1 e2 e3 e4 hl => ?_⟩
  obtain ⟨E1, E2, E3, E4, E5, E6, E7, E8, E9, E10, E11⟩ := id E
  have y1 : Cond.codeWith yL_rests cL_rests 7 (some .int) hhL ∈ q_tbl := q_p4 225 rfl rfl
  have hG : GoodIn q_tbl (va_wsS y.cls i yL_rests (Cond.codeWith yL_rests cL_rests 7 (some .int) hhL :: q_tbl)) := by
    intro w hw
    have hw : w ∈ q_tbl := by
      rcases List.mem_append.mp hw with z | z
      · simp only [List.mem_cons, List.not_mem_nil, or_false] at z
        rcases z with rfl | rfl | rfl
        · exact hk
        · exact q_p4 224 rfl rfl
        · exact q_p1 0 rfl rfl
      · rcases List.mem_cons.mp z with rfl | z
        · exact y1
        · exact z
    exact ⟨hw, good_of_word (List.mem_filter.mp hw).2⟩
  have hroom : d2 + 1 ≤ R.frames ∧ 8 + (7 + 11) + 60 * d2 ≤ R.locals := ⟨by omega, by omega⟩
  have hW9 : 2 * (F0 m pc lc ((as.reverse ++ st).map (q_v G))).monitorRoom + ((st.map (q_v G)).map fun v => v.category).sum ≤ 8 := by
    rw [q_catsum]; show 2 * 0 + _ ≤ 8; omega
  have hstk : (F0 m pc lc ((as.reverse ++ st).map (q_v G))).stack = (as.map (q_v G)).reverse ++ st.map (q_v G) := by
    show (as.reverse ++ st).map (q_v G) = _
    rw [List.map_append, List.map_reverse]
  have hpre : PreS s H (q_Pc G as h) (as.map (q_v G)) := ⟨q_blind _ _ _, fun U hU hW => ⟨rfl, by rw [hU]; exact hR.moved hW.alike, E9.warm hW⟩⟩
  have hrun : va_Run p l e R s m args below meth c H locs cells slots (h1.2.1 - h.2.1) (h1.2.2 - h.2.2) (F0 m pc lc ((as.reverse ++ st).map (q_v G))) (st.map (q_v G)) (q_Qc G r2 h1 (as.map (q_v G)).toArray) (q_fr G) :=
    vx_runSW (bytes := cL_rests) (maxL := 7) (ret := some .int) (hh := hhL) (n := 6) ⟨E1, E2, E4, E5, E8⟩ (hM G) (vx_cwSW 6 E8 hG rfl rfl rfl (by decide +kernel) hroom) hpre rfl (by rw [List.length_map]; exact hn) hl.1 hstk hW9 hd ⟨by omega, by omega⟩
  exact q_after hrun hlo e1 e2 (by omega) (by omega) e3 e4 hl (k3 G p e R s m args below meth c E)
def dfX10 : List Value := [.int 0, .int 0, .null, .int 0, .int 0, .int 0, .int 0, .long 0, .int 0, .int 0, .null, .null, .null, .null, .null, .null, .null, .null, .null, .int 0] ++ [.int 0, .null, .null, .null, .null, .null, .null, .null, .null, .null, .null, .null, .null, .int 0, .null, .null, .null, .null, .null, .null] ++ [.null, .null, .null, .null, .null, .null, .null, .int 0, .null, .null, .null, .null, .long 0]
theorem dfX10_ok : ∀ G : qG, ∀ j, j < 53 → defaultValue (tyX10 j) = vp_V (dfX10.map (q_v G)) j := by
  intro G
  rw [show dfX10.map (q_v G) = dfX10 from rfl]
  decide +kernel
theorem dL_law_0 : decode cL_law 0 = .ok (.new 8, 3) := by decide +kernel
theorem dL_law_3 : decode cL_law 3 = .ok (.dup, 1) := by decide +kernel
theorem dL_law_4 : decode cL_law 4 = .ok (.invokespecial 15, 3) := by decide +kernel
theorem dL_law_7 : decode cL_law 7 = .ok (.astore_n 1, 1) := by decide +kernel
theorem dL_law_8 : decode cL_law 8 = .ok (.new 16, 3) := by decide +kernel
theorem dL_law_11 : decode cL_law 11 = .ok (.dup, 1) := by decide +kernel
theorem dL_law_12 : decode cL_law 12 = .ok (.invokespecial 18, 3) := by decide +kernel
theorem dL_law_15 : decode cL_law 15 = .ok (.astore_n 2, 1) := by decide +kernel
theorem dL_law_16 : decode cL_law 16 = .ok (.iconst 1, 1) := by decide +kernel
theorem dL_law_17 : decode cL_law 17 = .ok (.newarray .long, 2) := by decide +kernel
theorem dL_law_19 : decode cL_law 19 = .ok (.astore_n 3, 1) := by decide +kernel
theorem dL_law_20 : decode cL_law 20 = .ok (.iconst 0, 1) := by decide +kernel
theorem dL_law_21 : decode cL_law 21 = .ok (.istore 4, 2) := by decide +kernel
theorem dL_law_23 : decode cL_law 23 = .ok (.iload 4, 2) := by decide +kernel
theorem dL_law_25 : decode cL_law 25 = .ok (.aload_n 0, 1) := by decide +kernel
theorem dL_law_26 : decode cL_law 26 = .ok (.arraylength, 1) := by decide +kernel
theorem dL_law_27 : decode cL_law 27 = .ok (.bipush 7, 2) := by decide +kernel
theorem dL_law_29 : decode cL_law 29 = .ok (.isub, 1) := by decide +kernel
theorem dL_law_30 : decode cL_law 30 = .ok (.if_icmp .gt 1399, 3) := by decide +kernel
theorem dL_law_33 : decode cL_law 33 = .ok (.aload_n 0, 1) := by decide +kernel
theorem dL_law_34 : decode cL_law 34 = .ok (.iload 4, 2) := by decide +kernel
theorem dL_law_36 : decode cL_law 36 = .ok (.iaload, 1) := by decide +kernel
theorem dL_law_37 : decode cL_law 37 = .ok (.bipush 63, 2) := by decide +kernel
theorem dL_law_39 : decode cL_law 39 = .ok (.iand, 1) := by decide +kernel
theorem dL_law_40 : decode cL_law 40 = .ok (.tableswitch 1383 0 41 #[184, 331, 344, 357, 394, 419, 444, 457, 470, 495, 508, 521, 546, 571, 608, 645, 658, 671, 684, 721, 746, 771, 796, 821, 846, 871, 908, 921, 934, 959, 972, 985, 998, 1011, 1024, 1089, 1102, 1115, 1164, 1256, 1305, 1358], 184) := by decide +kernel
theorem dL_law_224 : decode cL_law 224 = .ok (.aload_n 1, 1) := by decide +kernel
theorem dL_law_225 : decode cL_law 225 = .ok (.aload_n 0, 1) := by decide +kernel
theorem dL_law_226 : decode cL_law 226 = .ok (.iload 4, 2) := by decide +kernel
theorem dL_law_228 : decode cL_law 228 = .ok (.iconst 1, 1) := by decide +kernel
theorem dL_law_229 : decode cL_law 229 = .ok (.iadd, 1) := by decide +kernel
theorem dL_law_230 : decode cL_law 230 = .ok (.iaload, 1) := by decide +kernel
theorem dL_law_231 : decode cL_law 231 = .ok (.i2l, 1) := by decide +kernel
theorem dL_law_232 : decode cL_law 232 = .ok (.bipush 32, 2) := by decide +kernel
theorem dL_law_234 : decode cL_law 234 = .ok (.lshl, 1) := by decide +kernel
theorem dL_law_235 : decode cL_law 235 = .ok (.aload_n 0, 1) := by decide +kernel
theorem dL_law_236 : decode cL_law 236 = .ok (.iload 4, 2) := by decide +kernel
theorem dL_law_238 : decode cL_law 238 = .ok (.iconst 2, 1) := by decide +kernel
theorem dL_law_239 : decode cL_law 239 = .ok (.iadd, 1) := by decide +kernel
theorem dL_law_240 : decode cL_law 240 = .ok (.iaload, 1) := by decide +kernel
theorem dL_law_241 : decode cL_law 241 = .ok (.i2l, 1) := by decide +kernel
theorem dL_law_242 : decode cL_law 242 = .ok (.ldc2_w 19, 3) := by decide +kernel
theorem dL_law_245 : decode cL_law 245 = .ok (.land, 1) := by decide +kernel
theorem dL_law_246 : decode cL_law 246 = .ok (.lor, 1) := by decide +kernel
theorem dL_law_247 : decode cL_law 247 = .ok (.aload_n 0, 1) := by decide +kernel
theorem dL_law_248 : decode cL_law 248 = .ok (.iload 4, 2) := by decide +kernel
theorem dL_law_250 : decode cL_law 250 = .ok (.iconst 3, 1) := by decide +kernel
theorem dL_law_251 : decode cL_law 251 = .ok (.iadd, 1) := by decide +kernel
theorem dL_law_252 : decode cL_law 252 = .ok (.iaload, 1) := by decide +kernel
theorem dL_law_253 : decode cL_law 253 = .ok (.i2l, 1) := by decide +kernel
theorem dL_law_254 : decode cL_law 254 = .ok (.bipush 32, 2) := by decide +kernel
theorem dL_law_256 : decode cL_law 256 = .ok (.lshl, 1) := by decide +kernel
theorem dL_law_257 : decode cL_law 257 = .ok (.aload_n 0, 1) := by decide +kernel
theorem dL_law_258 : decode cL_law 258 = .ok (.iload 4, 2) := by decide +kernel
theorem dL_law_260 : decode cL_law 260 = .ok (.iconst 4, 1) := by decide +kernel
theorem dL_law_261 : decode cL_law 261 = .ok (.iadd, 1) := by decide +kernel
theorem dL_law_262 : decode cL_law 262 = .ok (.iaload, 1) := by decide +kernel
theorem dL_law_263 : decode cL_law 263 = .ok (.i2l, 1) := by decide +kernel
theorem dL_law_264 : decode cL_law 264 = .ok (.ldc2_w 19, 3) := by decide +kernel
theorem dL_law_267 : decode cL_law 267 = .ok (.land, 1) := by decide +kernel
theorem dL_law_268 : decode cL_law 268 = .ok (.lor, 1) := by decide +kernel
theorem dL_law_269 : decode cL_law 269 = .ok (.aload_n 0, 1) := by decide +kernel
theorem dL_law_270 : decode cL_law 270 = .ok (.iload 4, 2) := by decide +kernel
theorem dL_law_272 : decode cL_law 272 = .ok (.iconst 5, 1) := by decide +kernel
theorem dL_law_273 : decode cL_law 273 = .ok (.iadd, 1) := by decide +kernel
theorem dL_law_274 : decode cL_law 274 = .ok (.iaload, 1) := by decide +kernel
theorem dL_law_275 : decode cL_law 275 = .ok (.i2l, 1) := by decide +kernel
theorem dL_law_276 : decode cL_law 276 = .ok (.bipush 32, 2) := by decide +kernel
theorem dL_law_278 : decode cL_law 278 = .ok (.lshl, 1) := by decide +kernel
theorem dL_law_279 : decode cL_law 279 = .ok (.aload_n 0, 1) := by decide +kernel
theorem dL_law_280 : decode cL_law 280 = .ok (.iload 4, 2) := by decide +kernel
theorem dL_law_282 : decode cL_law 282 = .ok (.bipush 6, 2) := by decide +kernel
theorem dL_law_284 : decode cL_law 284 = .ok (.iadd, 1) := by decide +kernel
theorem dL_law_285 : decode cL_law 285 = .ok (.iaload, 1) := by decide +kernel
theorem dL_law_286 : decode cL_law 286 = .ok (.i2l, 1) := by decide +kernel
theorem dL_law_287 : decode cL_law 287 = .ok (.ldc2_w 19, 3) := by decide +kernel
theorem dL_law_290 : decode cL_law 290 = .ok (.land, 1) := by decide +kernel
theorem dL_law_291 : decode cL_law 291 = .ok (.lor, 1) := by decide +kernel
theorem dL_law_292 : decode cL_law 292 = .ok (.invokevirtual 21, 3) := by decide +kernel
theorem dL_law_295 : decode cL_law 295 = .ok (.aload_n 2, 1) := by decide +kernel
theorem dL_law_296 : decode cL_law 296 = .ok (.aload_n 0, 1) := by decide +kernel
theorem dL_law_297 : decode cL_law 297 = .ok (.iload 4, 2) := by decide +kernel
theorem dL_law_299 : decode cL_law 299 = .ok (.iconst 1, 1) := by decide +kernel
theorem dL_law_300 : decode cL_law 300 = .ok (.iadd, 1) := by decide +kernel
theorem dL_law_301 : decode cL_law 301 = .ok (.iaload, 1) := by decide +kernel
theorem dL_law_302 : decode cL_law 302 = .ok (.i2l, 1) := by decide +kernel
theorem dL_law_303 : decode cL_law 303 = .ok (.bipush 32, 2) := by decide +kernel
theorem dL_law_305 : decode cL_law 305 = .ok (.lshl, 1) := by decide +kernel
theorem dL_law_306 : decode cL_law 306 = .ok (.aload_n 0, 1) := by decide +kernel
theorem dL_law_307 : decode cL_law 307 = .ok (.iload 4, 2) := by decide +kernel
theorem dL_law_309 : decode cL_law 309 = .ok (.iconst 2, 1) := by decide +kernel
theorem dL_law_310 : decode cL_law 310 = .ok (.iadd, 1) := by decide +kernel
theorem dL_law_311 : decode cL_law 311 = .ok (.iaload, 1) := by decide +kernel
theorem dL_law_312 : decode cL_law 312 = .ok (.i2l, 1) := by decide +kernel
theorem dL_law_313 : decode cL_law 313 = .ok (.ldc2_w 19, 3) := by decide +kernel
theorem dL_law_316 : decode cL_law 316 = .ok (.land, 1) := by decide +kernel
theorem dL_law_317 : decode cL_law 317 = .ok (.lor, 1) := by decide +kernel
theorem dL_law_318 : decode cL_law 318 = .ok (.aload_n 0, 1) := by decide +kernel
theorem dL_law_319 : decode cL_law 319 = .ok (.iload 4, 2) := by decide +kernel
theorem dL_law_321 : decode cL_law 321 = .ok (.iconst 3, 1) := by decide +kernel
theorem dL_law_322 : decode cL_law 322 = .ok (.iadd, 1) := by decide +kernel
theorem dL_law_323 : decode cL_law 323 = .ok (.iaload, 1) := by decide +kernel
theorem dL_law_324 : decode cL_law 324 = .ok (.i2l, 1) := by decide +kernel
theorem dL_law_325 : decode cL_law 325 = .ok (.bipush 32, 2) := by decide +kernel
theorem dL_law_327 : decode cL_law 327 = .ok (.lshl, 1) := by decide +kernel
theorem dL_law_328 : decode cL_law 328 = .ok (.aload_n 0, 1) := by decide +kernel
theorem dL_law_329 : decode cL_law 329 = .ok (.iload 4, 2) := by decide +kernel
theorem dL_law_331 : decode cL_law 331 = .ok (.iconst 4, 1) := by decide +kernel
theorem dL_law_332 : decode cL_law 332 = .ok (.iadd, 1) := by decide +kernel
theorem dL_law_333 : decode cL_law 333 = .ok (.iaload, 1) := by decide +kernel
theorem dL_law_334 : decode cL_law 334 = .ok (.i2l, 1) := by decide +kernel
theorem dL_law_335 : decode cL_law 335 = .ok (.ldc2_w 19, 3) := by decide +kernel
theorem dL_law_338 : decode cL_law 338 = .ok (.land, 1) := by decide +kernel
theorem dL_law_339 : decode cL_law 339 = .ok (.lor, 1) := by decide +kernel
theorem dL_law_340 : decode cL_law 340 = .ok (.aload_n 0, 1) := by decide +kernel
theorem dL_law_341 : decode cL_law 341 = .ok (.iload 4, 2) := by decide +kernel
theorem dL_law_343 : decode cL_law 343 = .ok (.iconst 5, 1) := by decide +kernel
theorem dL_law_344 : decode cL_law 344 = .ok (.iadd, 1) := by decide +kernel
theorem dL_law_345 : decode cL_law 345 = .ok (.iaload, 1) := by decide +kernel
theorem dL_law_346 : decode cL_law 346 = .ok (.i2l, 1) := by decide +kernel
theorem dL_law_347 : decode cL_law 347 = .ok (.bipush 32, 2) := by decide +kernel
theorem dL_law_349 : decode cL_law 349 = .ok (.lshl, 1) := by decide +kernel
theorem dL_law_350 : decode cL_law 350 = .ok (.aload_n 0, 1) := by decide +kernel
theorem dL_law_351 : decode cL_law 351 = .ok (.iload 4, 2) := by decide +kernel
theorem dL_law_353 : decode cL_law 353 = .ok (.bipush 6, 2) := by decide +kernel
theorem dL_law_355 : decode cL_law 355 = .ok (.iadd, 1) := by decide +kernel
theorem dL_law_356 : decode cL_law 356 = .ok (.iaload, 1) := by decide +kernel
theorem dL_law_357 : decode cL_law 357 = .ok (.i2l, 1) := by decide +kernel
theorem dL_law_358 : decode cL_law 358 = .ok (.ldc2_w 19, 3) := by decide +kernel
theorem dL_law_361 : decode cL_law 361 = .ok (.land, 1) := by decide +kernel
theorem dL_law_362 : decode cL_law 362 = .ok (.lor, 1) := by decide +kernel
theorem dL_law_363 : decode cL_law 363 = .ok (.invokevirtual 25, 3) := by decide +kernel
theorem dL_law_366 : decode cL_law 366 = .ok (.if_icmp .eq 1057, 3) := by decide +kernel
theorem dL_law_369 : decode cL_law 369 = .ok (.iconst 0, 1) := by decide +kernel
theorem dL_law_370 : decode cL_law 370 = .ok (.ireturn, 1) := by decide +kernel
theorem dL_law_371 : decode cL_law 371 = .ok (.aload_n 1, 1) := by decide +kernel
theorem dL_law_372 : decode cL_law 372 = .ok (.invokevirtual 26, 3) := by decide +kernel
theorem dL_law_375 : decode cL_law 375 = .ok (.aload_n 2, 1) := by decide +kernel
theorem dL_law_376 : decode cL_law 376 = .ok (.invokevirtual 30, 3) := by decide +kernel
theorem dL_law_379 : decode cL_law 379 = .ok (.if_icmp .eq 1044, 3) := by decide +kernel
theorem dL_law_382 : decode cL_law 382 = .ok (.iconst 0, 1) := by decide +kernel
theorem dL_law_383 : decode cL_law 383 = .ok (.ireturn, 1) := by decide +kernel
theorem dL_law_384 : decode cL_law 384 = .ok (.aload_n 1, 1) := by decide +kernel
theorem dL_law_385 : decode cL_law 385 = .ok (.invokevirtual 31, 3) := by decide +kernel
theorem dL_law_388 : decode cL_law 388 = .ok (.aload_n 2, 1) := by decide +kernel
theorem dL_law_389 : decode cL_law 389 = .ok (.invokevirtual 34, 3) := by decide +kernel
theorem dL_law_392 : decode cL_law 392 = .ok (.if_icmp .eq 1031, 3) := by decide +kernel
theorem dL_law_395 : decode cL_law 395 = .ok (.iconst 0, 1) := by decide +kernel
theorem dL_law_396 : decode cL_law 396 = .ok (.ireturn, 1) := by decide +kernel
theorem dL_law_397 : decode cL_law 397 = .ok (.aload_n 1, 1) := by decide +kernel
theorem dL_law_398 : decode cL_law 398 = .ok (.aload_n 0, 1) := by decide +kernel
theorem dL_law_399 : decode cL_law 399 = .ok (.iload 4, 2) := by decide +kernel
theorem dL_law_401 : decode cL_law 401 = .ok (.iconst 1, 1) := by decide +kernel
theorem dL_law_402 : decode cL_law 402 = .ok (.iadd, 1) := by decide +kernel
theorem dL_law_403 : decode cL_law 403 = .ok (.iaload, 1) := by decide +kernel
theorem dL_law_404 : decode cL_law 404 = .ok (.aload_n 0, 1) := by decide +kernel
theorem dL_law_405 : decode cL_law 405 = .ok (.iload 4, 2) := by decide +kernel
theorem dL_law_407 : decode cL_law 407 = .ok (.iconst 2, 1) := by decide +kernel
theorem dL_law_408 : decode cL_law 408 = .ok (.iadd, 1) := by decide +kernel
theorem dL_law_409 : decode cL_law 409 = .ok (.iaload, 1) := by decide +kernel
theorem dL_law_410 : decode cL_law 410 = .ok (.invokevirtual 35, 3) := by decide +kernel
theorem dL_law_413 : decode cL_law 413 = .ok (.aload_n 2, 1) := by decide +kernel
theorem dL_law_414 : decode cL_law 414 = .ok (.aload_n 0, 1) := by decide +kernel
theorem dL_law_415 : decode cL_law 415 = .ok (.iload 4, 2) := by decide +kernel
theorem dL_law_417 : decode cL_law 417 = .ok (.iconst 1, 1) := by decide +kernel
theorem dL_law_418 : decode cL_law 418 = .ok (.iadd, 1) := by decide +kernel
theorem dL_law_419 : decode cL_law 419 = .ok (.iaload, 1) := by decide +kernel
theorem dL_law_420 : decode cL_law 420 = .ok (.aload_n 0, 1) := by decide +kernel
theorem dL_law_421 : decode cL_law 421 = .ok (.iload 4, 2) := by decide +kernel
theorem dL_law_423 : decode cL_law 423 = .ok (.iconst 2, 1) := by decide +kernel
theorem dL_law_424 : decode cL_law 424 = .ok (.iadd, 1) := by decide +kernel
theorem dL_law_425 : decode cL_law 425 = .ok (.iaload, 1) := by decide +kernel
theorem dL_law_426 : decode cL_law 426 = .ok (.invokevirtual 39, 3) := by decide +kernel
theorem dL_law_429 : decode cL_law 429 = .ok (.if_icmp .eq 994, 3) := by decide +kernel
theorem dL_law_432 : decode cL_law 432 = .ok (.iconst 0, 1) := by decide +kernel
theorem dL_law_433 : decode cL_law 433 = .ok (.ireturn, 1) := by decide +kernel
theorem dL_law_434 : decode cL_law 434 = .ok (.aload_n 1, 1) := by decide +kernel
theorem dL_law_435 : decode cL_law 435 = .ok (.aload_n 0, 1) := by decide +kernel
theorem dL_law_436 : decode cL_law 436 = .ok (.iload 4, 2) := by decide +kernel
theorem dL_law_438 : decode cL_law 438 = .ok (.iconst 1, 1) := by decide +kernel
theorem dL_law_439 : decode cL_law 439 = .ok (.iadd, 1) := by decide +kernel
theorem dL_law_440 : decode cL_law 440 = .ok (.iaload, 1) := by decide +kernel
theorem dL_law_441 : decode cL_law 441 = .ok (.invokevirtual 40, 3) := by decide +kernel
theorem dL_law_444 : decode cL_law 444 = .ok (.aload_n 2, 1) := by decide +kernel
theorem dL_law_445 : decode cL_law 445 = .ok (.aload_n 0, 1) := by decide +kernel
theorem dL_law_446 : decode cL_law 446 = .ok (.iload 4, 2) := by decide +kernel
theorem dL_law_448 : decode cL_law 448 = .ok (.iconst 1, 1) := by decide +kernel
theorem dL_law_449 : decode cL_law 449 = .ok (.iadd, 1) := by decide +kernel
theorem dL_law_450 : decode cL_law 450 = .ok (.iaload, 1) := by decide +kernel
theorem dL_law_451 : decode cL_law 451 = .ok (.invokevirtual 44, 3) := by decide +kernel
theorem dL_law_454 : decode cL_law 454 = .ok (.if_icmp .eq 969, 3) := by decide +kernel
theorem dL_law_457 : decode cL_law 457 = .ok (.iconst 0, 1) := by decide +kernel
theorem dL_law_458 : decode cL_law 458 = .ok (.ireturn, 1) := by decide +kernel
theorem dL_law_459 : decode cL_law 459 = .ok (.aload_n 1, 1) := by decide +kernel
theorem dL_law_460 : decode cL_law 460 = .ok (.aload_n 0, 1) := by decide +kernel
theorem dL_law_461 : decode cL_law 461 = .ok (.iload 4, 2) := by decide +kernel
theorem dL_law_463 : decode cL_law 463 = .ok (.iconst 1, 1) := by decide +kernel
theorem dL_law_464 : decode cL_law 464 = .ok (.iadd, 1) := by decide +kernel
theorem dL_law_465 : decode cL_law 465 = .ok (.iaload, 1) := by decide +kernel
theorem dL_law_466 : decode cL_law 466 = .ok (.invokevirtual 45, 3) := by decide +kernel
theorem dL_law_469 : decode cL_law 469 = .ok (.aload_n 2, 1) := by decide +kernel
theorem dL_law_470 : decode cL_law 470 = .ok (.aload_n 0, 1) := by decide +kernel
theorem dL_law_471 : decode cL_law 471 = .ok (.iload 4, 2) := by decide +kernel
theorem dL_law_473 : decode cL_law 473 = .ok (.iconst 1, 1) := by decide +kernel
theorem dL_law_474 : decode cL_law 474 = .ok (.iadd, 1) := by decide +kernel
theorem dL_law_475 : decode cL_law 475 = .ok (.iaload, 1) := by decide +kernel
theorem dL_law_476 : decode cL_law 476 = .ok (.invokevirtual 48, 3) := by decide +kernel
theorem dL_law_479 : decode cL_law 479 = .ok (.if_icmp .eq 944, 3) := by decide +kernel
theorem dL_law_482 : decode cL_law 482 = .ok (.iconst 0, 1) := by decide +kernel
theorem dL_law_483 : decode cL_law 483 = .ok (.ireturn, 1) := by decide +kernel
theorem dL_law_484 : decode cL_law 484 = .ok (.aload_n 1, 1) := by decide +kernel
theorem dL_law_485 : decode cL_law 485 = .ok (.invokevirtual 49, 3) := by decide +kernel
theorem dL_law_488 : decode cL_law 488 = .ok (.aload_n 2, 1) := by decide +kernel
theorem dL_law_489 : decode cL_law 489 = .ok (.invokevirtual 52, 3) := by decide +kernel
theorem dL_law_492 : decode cL_law 492 = .ok (.if_icmp .eq 931, 3) := by decide +kernel
theorem dL_law_495 : decode cL_law 495 = .ok (.iconst 0, 1) := by decide +kernel
theorem dL_law_496 : decode cL_law 496 = .ok (.ireturn, 1) := by decide +kernel
theorem dL_law_497 : decode cL_law 497 = .ok (.aload_n 1, 1) := by decide +kernel
theorem dL_law_498 : decode cL_law 498 = .ok (.invokevirtual 53, 3) := by decide +kernel
theorem dL_law_501 : decode cL_law 501 = .ok (.aload_n 2, 1) := by decide +kernel
theorem dL_law_502 : decode cL_law 502 = .ok (.invokevirtual 57, 3) := by decide +kernel
theorem dL_law_505 : decode cL_law 505 = .ok (.if_icmp .eq 918, 3) := by decide +kernel
theorem dL_law_508 : decode cL_law 508 = .ok (.iconst 0, 1) := by decide +kernel
theorem dL_law_509 : decode cL_law 509 = .ok (.ireturn, 1) := by decide +kernel
theorem dL_law_510 : decode cL_law 510 = .ok (.aload_n 1, 1) := by decide +kernel
theorem dL_law_511 : decode cL_law 511 = .ok (.aload_n 0, 1) := by decide +kernel
theorem dL_law_512 : decode cL_law 512 = .ok (.iload 4, 2) := by decide +kernel
theorem dL_law_514 : decode cL_law 514 = .ok (.iconst 1, 1) := by decide +kernel
theorem dL_law_515 : decode cL_law 515 = .ok (.iadd, 1) := by decide +kernel
theorem dL_law_516 : decode cL_law 516 = .ok (.iaload, 1) := by decide +kernel
theorem dL_law_517 : decode cL_law 517 = .ok (.invokevirtual 58, 3) := by decide +kernel
theorem dL_law_520 : decode cL_law 520 = .ok (.aload_n 2, 1) := by decide +kernel
theorem dL_law_521 : decode cL_law 521 = .ok (.aload_n 0, 1) := by decide +kernel
theorem dL_law_522 : decode cL_law 522 = .ok (.iload 4, 2) := by decide +kernel
theorem dL_law_524 : decode cL_law 524 = .ok (.iconst 1, 1) := by decide +kernel
theorem dL_law_525 : decode cL_law 525 = .ok (.iadd, 1) := by decide +kernel
theorem dL_law_526 : decode cL_law 526 = .ok (.iaload, 1) := by decide +kernel
theorem dL_law_527 : decode cL_law 527 = .ok (.invokevirtual 61, 3) := by decide +kernel
theorem dL_law_530 : decode cL_law 530 = .ok (.if_icmp .eq 893, 3) := by decide +kernel
theorem dL_law_533 : decode cL_law 533 = .ok (.iconst 0, 1) := by decide +kernel
theorem dL_law_534 : decode cL_law 534 = .ok (.ireturn, 1) := by decide +kernel
theorem dL_law_535 : decode cL_law 535 = .ok (.aload_n 1, 1) := by decide +kernel
theorem dL_law_536 : decode cL_law 536 = .ok (.invokevirtual 62, 3) := by decide +kernel
theorem dL_law_539 : decode cL_law 539 = .ok (.aload_n 2, 1) := by decide +kernel
theorem dL_law_540 : decode cL_law 540 = .ok (.invokevirtual 65, 3) := by decide +kernel
theorem dL_law_543 : decode cL_law 543 = .ok (.if_icmp .eq 880, 3) := by decide +kernel
theorem dL_law_546 : decode cL_law 546 = .ok (.iconst 0, 1) := by decide +kernel
theorem dL_law_547 : decode cL_law 547 = .ok (.ireturn, 1) := by decide +kernel
theorem dL_law_548 : decode cL_law 548 = .ok (.aload_n 1, 1) := by decide +kernel
theorem dL_law_549 : decode cL_law 549 = .ok (.invokevirtual 66, 3) := by decide +kernel
theorem dL_law_552 : decode cL_law 552 = .ok (.aload_n 2, 1) := by decide +kernel
theorem dL_law_553 : decode cL_law 553 = .ok (.invokevirtual 69, 3) := by decide +kernel
theorem dL_law_556 : decode cL_law 556 = .ok (.if_icmp .eq 867, 3) := by decide +kernel
theorem dL_law_559 : decode cL_law 559 = .ok (.iconst 0, 1) := by decide +kernel
theorem dL_law_560 : decode cL_law 560 = .ok (.ireturn, 1) := by decide +kernel
theorem dL_law_561 : decode cL_law 561 = .ok (.aload_n 1, 1) := by decide +kernel
theorem dL_law_562 : decode cL_law 562 = .ok (.aload_n 0, 1) := by decide +kernel
theorem dL_law_563 : decode cL_law 563 = .ok (.iload 4, 2) := by decide +kernel
theorem dL_law_565 : decode cL_law 565 = .ok (.iconst 1, 1) := by decide +kernel
theorem dL_law_566 : decode cL_law 566 = .ok (.iadd, 1) := by decide +kernel
theorem dL_law_567 : decode cL_law 567 = .ok (.iaload, 1) := by decide +kernel
theorem dL_law_568 : decode cL_law 568 = .ok (.invokevirtual 70, 3) := by decide +kernel
theorem dL_law_571 : decode cL_law 571 = .ok (.aload_n 2, 1) := by decide +kernel
theorem dL_law_572 : decode cL_law 572 = .ok (.aload_n 0, 1) := by decide +kernel
theorem dL_law_573 : decode cL_law 573 = .ok (.iload 4, 2) := by decide +kernel
theorem dL_law_575 : decode cL_law 575 = .ok (.iconst 1, 1) := by decide +kernel
theorem dL_law_576 : decode cL_law 576 = .ok (.iadd, 1) := by decide +kernel
theorem dL_law_577 : decode cL_law 577 = .ok (.iaload, 1) := by decide +kernel
theorem dL_law_578 : decode cL_law 578 = .ok (.invokevirtual 73, 3) := by decide +kernel
theorem dL_law_581 : decode cL_law 581 = .ok (.if_icmp .eq 842, 3) := by decide +kernel
theorem dL_law_584 : decode cL_law 584 = .ok (.iconst 0, 1) := by decide +kernel
theorem dL_law_585 : decode cL_law 585 = .ok (.ireturn, 1) := by decide +kernel
theorem dL_law_586 : decode cL_law 586 = .ok (.aload_n 1, 1) := by decide +kernel
theorem dL_law_587 : decode cL_law 587 = .ok (.aload_n 0, 1) := by decide +kernel
theorem dL_law_588 : decode cL_law 588 = .ok (.iload 4, 2) := by decide +kernel
theorem dL_law_590 : decode cL_law 590 = .ok (.iconst 1, 1) := by decide +kernel
theorem dL_law_591 : decode cL_law 591 = .ok (.iadd, 1) := by decide +kernel
theorem dL_law_592 : decode cL_law 592 = .ok (.iaload, 1) := by decide +kernel
theorem dL_law_593 : decode cL_law 593 = .ok (.invokevirtual 74, 3) := by decide +kernel
theorem dL_law_596 : decode cL_law 596 = .ok (.aload_n 2, 1) := by decide +kernel
theorem dL_law_597 : decode cL_law 597 = .ok (.aload_n 0, 1) := by decide +kernel
theorem dL_law_598 : decode cL_law 598 = .ok (.iload 4, 2) := by decide +kernel
theorem dL_law_600 : decode cL_law 600 = .ok (.iconst 1, 1) := by decide +kernel
theorem dL_law_601 : decode cL_law 601 = .ok (.iadd, 1) := by decide +kernel
theorem dL_law_602 : decode cL_law 602 = .ok (.iaload, 1) := by decide +kernel
theorem dL_law_603 : decode cL_law 603 = .ok (.invokevirtual 77, 3) := by decide +kernel
theorem dL_law_606 : decode cL_law 606 = .ok (.if_icmp .eq 817, 3) := by decide +kernel
theorem dL_law_609 : decode cL_law 609 = .ok (.iconst 0, 1) := by decide +kernel
theorem dL_law_610 : decode cL_law 610 = .ok (.ireturn, 1) := by decide +kernel
theorem dL_law_611 : decode cL_law 611 = .ok (.aload_n 1, 1) := by decide +kernel
theorem dL_law_612 : decode cL_law 612 = .ok (.aload_n 0, 1) := by decide +kernel
theorem dL_law_613 : decode cL_law 613 = .ok (.iload 4, 2) := by decide +kernel
theorem dL_law_615 : decode cL_law 615 = .ok (.iconst 1, 1) := by decide +kernel
theorem dL_law_616 : decode cL_law 616 = .ok (.iadd, 1) := by decide +kernel
theorem dL_law_617 : decode cL_law 617 = .ok (.iaload, 1) := by decide +kernel
theorem dL_law_618 : decode cL_law 618 = .ok (.aload_n 0, 1) := by decide +kernel
theorem dL_law_619 : decode cL_law 619 = .ok (.iload 4, 2) := by decide +kernel
theorem dL_law_621 : decode cL_law 621 = .ok (.iconst 2, 1) := by decide +kernel
theorem dL_law_622 : decode cL_law 622 = .ok (.iadd, 1) := by decide +kernel
theorem dL_law_623 : decode cL_law 623 = .ok (.iaload, 1) := by decide +kernel
theorem dL_law_624 : decode cL_law 624 = .ok (.invokevirtual 78, 3) := by decide +kernel
theorem dL_law_627 : decode cL_law 627 = .ok (.aload_n 2, 1) := by decide +kernel
theorem dL_law_628 : decode cL_law 628 = .ok (.aload_n 0, 1) := by decide +kernel
theorem dL_law_629 : decode cL_law 629 = .ok (.iload 4, 2) := by decide +kernel
theorem dL_law_631 : decode cL_law 631 = .ok (.iconst 1, 1) := by decide +kernel
theorem dL_law_632 : decode cL_law 632 = .ok (.iadd, 1) := by decide +kernel
theorem dL_law_633 : decode cL_law 633 = .ok (.iaload, 1) := by decide +kernel
theorem dL_law_634 : decode cL_law 634 = .ok (.aload_n 0, 1) := by decide +kernel
theorem dL_law_635 : decode cL_law 635 = .ok (.iload 4, 2) := by decide +kernel
theorem dL_law_637 : decode cL_law 637 = .ok (.iconst 2, 1) := by decide +kernel
theorem dL_law_638 : decode cL_law 638 = .ok (.iadd, 1) := by decide +kernel
theorem dL_law_639 : decode cL_law 639 = .ok (.iaload, 1) := by decide +kernel
theorem dL_law_640 : decode cL_law 640 = .ok (.invokevirtual 81, 3) := by decide +kernel
theorem dL_law_643 : decode cL_law 643 = .ok (.if_icmp .eq 780, 3) := by decide +kernel
theorem dL_law_646 : decode cL_law 646 = .ok (.iconst 0, 1) := by decide +kernel
theorem dL_law_647 : decode cL_law 647 = .ok (.ireturn, 1) := by decide +kernel
theorem dL_law_648 : decode cL_law 648 = .ok (.aload_n 1, 1) := by decide +kernel
theorem dL_law_649 : decode cL_law 649 = .ok (.aload_n 0, 1) := by decide +kernel
theorem dL_law_650 : decode cL_law 650 = .ok (.iload 4, 2) := by decide +kernel
theorem dL_law_652 : decode cL_law 652 = .ok (.iconst 1, 1) := by decide +kernel
theorem dL_law_653 : decode cL_law 653 = .ok (.iadd, 1) := by decide +kernel
theorem dL_law_654 : decode cL_law 654 = .ok (.iaload, 1) := by decide +kernel
theorem dL_law_655 : decode cL_law 655 = .ok (.aload_n 0, 1) := by decide +kernel
theorem dL_law_656 : decode cL_law 656 = .ok (.iload 4, 2) := by decide +kernel
theorem dL_law_658 : decode cL_law 658 = .ok (.iconst 2, 1) := by decide +kernel
theorem dL_law_659 : decode cL_law 659 = .ok (.iadd, 1) := by decide +kernel
theorem dL_law_660 : decode cL_law 660 = .ok (.iaload, 1) := by decide +kernel
theorem dL_law_661 : decode cL_law 661 = .ok (.invokevirtual 82, 3) := by decide +kernel
theorem dL_law_664 : decode cL_law 664 = .ok (.aload_n 2, 1) := by decide +kernel
theorem dL_law_665 : decode cL_law 665 = .ok (.aload_n 0, 1) := by decide +kernel
theorem dL_law_666 : decode cL_law 666 = .ok (.iload 4, 2) := by decide +kernel
theorem dL_law_668 : decode cL_law 668 = .ok (.iconst 1, 1) := by decide +kernel
theorem dL_law_669 : decode cL_law 669 = .ok (.iadd, 1) := by decide +kernel
theorem dL_law_670 : decode cL_law 670 = .ok (.iaload, 1) := by decide +kernel
theorem dL_law_671 : decode cL_law 671 = .ok (.aload_n 0, 1) := by decide +kernel
theorem dL_law_672 : decode cL_law 672 = .ok (.iload 4, 2) := by decide +kernel
theorem dL_law_674 : decode cL_law 674 = .ok (.iconst 2, 1) := by decide +kernel
theorem dL_law_675 : decode cL_law 675 = .ok (.iadd, 1) := by decide +kernel
theorem dL_law_676 : decode cL_law 676 = .ok (.iaload, 1) := by decide +kernel
theorem dL_law_677 : decode cL_law 677 = .ok (.invokevirtual 85, 3) := by decide +kernel
theorem dL_law_680 : decode cL_law 680 = .ok (.if_icmp .eq 743, 3) := by decide +kernel
theorem dL_law_683 : decode cL_law 683 = .ok (.iconst 0, 1) := by decide +kernel
theorem dL_law_684 : decode cL_law 684 = .ok (.ireturn, 1) := by decide +kernel
theorem dL_law_685 : decode cL_law 685 = .ok (.aload_n 1, 1) := by decide +kernel
theorem dL_law_686 : decode cL_law 686 = .ok (.invokevirtual 86, 3) := by decide +kernel
theorem dL_law_689 : decode cL_law 689 = .ok (.aload_n 2, 1) := by decide +kernel
theorem dL_law_690 : decode cL_law 690 = .ok (.invokevirtual 89, 3) := by decide +kernel
theorem dL_law_693 : decode cL_law 693 = .ok (.if_icmp .eq 730, 3) := by decide +kernel
theorem dL_law_696 : decode cL_law 696 = .ok (.iconst 0, 1) := by decide +kernel
theorem dL_law_697 : decode cL_law 697 = .ok (.ireturn, 1) := by decide +kernel
theorem dL_law_698 : decode cL_law 698 = .ok (.aload_n 1, 1) := by decide +kernel
theorem dL_law_699 : decode cL_law 699 = .ok (.invokevirtual 90, 3) := by decide +kernel
theorem dL_law_702 : decode cL_law 702 = .ok (.aload_n 2, 1) := by decide +kernel
theorem dL_law_703 : decode cL_law 703 = .ok (.invokevirtual 93, 3) := by decide +kernel
theorem dL_law_706 : decode cL_law 706 = .ok (.if_icmp .eq 717, 3) := by decide +kernel
theorem dL_law_709 : decode cL_law 709 = .ok (.iconst 0, 1) := by decide +kernel
theorem dL_law_710 : decode cL_law 710 = .ok (.ireturn, 1) := by decide +kernel
theorem dL_law_711 : decode cL_law 711 = .ok (.aload_n 1, 1) := by decide +kernel
theorem dL_law_712 : decode cL_law 712 = .ok (.invokevirtual 94, 3) := by decide +kernel
theorem dL_law_715 : decode cL_law 715 = .ok (.aload_n 2, 1) := by decide +kernel
theorem dL_law_716 : decode cL_law 716 = .ok (.invokevirtual 97, 3) := by decide +kernel
theorem dL_law_719 : decode cL_law 719 = .ok (.if_icmp .eq 704, 3) := by decide +kernel
theorem dL_law_722 : decode cL_law 722 = .ok (.iconst 0, 1) := by decide +kernel
theorem dL_law_723 : decode cL_law 723 = .ok (.ireturn, 1) := by decide +kernel
theorem dL_law_724 : decode cL_law 724 = .ok (.aload_n 1, 1) := by decide +kernel
theorem dL_law_725 : decode cL_law 725 = .ok (.aload_n 0, 1) := by decide +kernel
theorem dL_law_726 : decode cL_law 726 = .ok (.iload 4, 2) := by decide +kernel
theorem dL_law_728 : decode cL_law 728 = .ok (.iconst 1, 1) := by decide +kernel
theorem dL_law_729 : decode cL_law 729 = .ok (.iadd, 1) := by decide +kernel
theorem dL_law_730 : decode cL_law 730 = .ok (.iaload, 1) := by decide +kernel
theorem dL_law_731 : decode cL_law 731 = .ok (.aload_n 0, 1) := by decide +kernel
theorem dL_law_732 : decode cL_law 732 = .ok (.iload 4, 2) := by decide +kernel
theorem dL_law_734 : decode cL_law 734 = .ok (.iconst 2, 1) := by decide +kernel
theorem dL_law_735 : decode cL_law 735 = .ok (.iadd, 1) := by decide +kernel
theorem dL_law_736 : decode cL_law 736 = .ok (.iaload, 1) := by decide +kernel
theorem dL_law_737 : decode cL_law 737 = .ok (.invokevirtual 98, 3) := by decide +kernel
theorem dL_law_740 : decode cL_law 740 = .ok (.aload_n 2, 1) := by decide +kernel
theorem dL_law_741 : decode cL_law 741 = .ok (.aload_n 0, 1) := by decide +kernel
theorem dL_law_742 : decode cL_law 742 = .ok (.iload 4, 2) := by decide +kernel
theorem dL_law_744 : decode cL_law 744 = .ok (.iconst 1, 1) := by decide +kernel
theorem dL_law_745 : decode cL_law 745 = .ok (.iadd, 1) := by decide +kernel
theorem dL_law_746 : decode cL_law 746 = .ok (.iaload, 1) := by decide +kernel
theorem dL_law_747 : decode cL_law 747 = .ok (.aload_n 0, 1) := by decide +kernel
theorem dL_law_748 : decode cL_law 748 = .ok (.iload 4, 2) := by decide +kernel
theorem dL_law_750 : decode cL_law 750 = .ok (.iconst 2, 1) := by decide +kernel
theorem dL_law_751 : decode cL_law 751 = .ok (.iadd, 1) := by decide +kernel
theorem dL_law_752 : decode cL_law 752 = .ok (.iaload, 1) := by decide +kernel
theorem dL_law_753 : decode cL_law 753 = .ok (.invokevirtual 101, 3) := by decide +kernel
theorem dL_law_756 : decode cL_law 756 = .ok (.if_icmp .eq 667, 3) := by decide +kernel
theorem dL_law_759 : decode cL_law 759 = .ok (.iconst 0, 1) := by decide +kernel
theorem dL_law_760 : decode cL_law 760 = .ok (.ireturn, 1) := by decide +kernel
theorem dL_law_761 : decode cL_law 761 = .ok (.aload_n 1, 1) := by decide +kernel
theorem dL_law_762 : decode cL_law 762 = .ok (.aload_n 0, 1) := by decide +kernel
theorem dL_law_763 : decode cL_law 763 = .ok (.iload 4, 2) := by decide +kernel
theorem dL_law_765 : decode cL_law 765 = .ok (.iconst 1, 1) := by decide +kernel
theorem dL_law_766 : decode cL_law 766 = .ok (.iadd, 1) := by decide +kernel
theorem dL_law_767 : decode cL_law 767 = .ok (.iaload, 1) := by decide +kernel
theorem dL_law_768 : decode cL_law 768 = .ok (.invokevirtual 102, 3) := by decide +kernel
theorem dL_law_771 : decode cL_law 771 = .ok (.aload_n 2, 1) := by decide +kernel
theorem dL_law_772 : decode cL_law 772 = .ok (.aload_n 0, 1) := by decide +kernel
theorem dL_law_773 : decode cL_law 773 = .ok (.iload 4, 2) := by decide +kernel
theorem dL_law_775 : decode cL_law 775 = .ok (.iconst 1, 1) := by decide +kernel
theorem dL_law_776 : decode cL_law 776 = .ok (.iadd, 1) := by decide +kernel
theorem dL_law_777 : decode cL_law 777 = .ok (.iaload, 1) := by decide +kernel
theorem dL_law_778 : decode cL_law 778 = .ok (.invokevirtual 105, 3) := by decide +kernel
theorem dL_law_781 : decode cL_law 781 = .ok (.if_icmp .eq 642, 3) := by decide +kernel
theorem dL_law_784 : decode cL_law 784 = .ok (.iconst 0, 1) := by decide +kernel
theorem dL_law_785 : decode cL_law 785 = .ok (.ireturn, 1) := by decide +kernel
theorem dL_law_786 : decode cL_law 786 = .ok (.aload_n 1, 1) := by decide +kernel
theorem dL_law_787 : decode cL_law 787 = .ok (.aload_n 0, 1) := by decide +kernel
theorem dL_law_788 : decode cL_law 788 = .ok (.iload 4, 2) := by decide +kernel
theorem dL_law_790 : decode cL_law 790 = .ok (.iconst 1, 1) := by decide +kernel
theorem dL_law_791 : decode cL_law 791 = .ok (.iadd, 1) := by decide +kernel
theorem dL_law_792 : decode cL_law 792 = .ok (.iaload, 1) := by decide +kernel
theorem dL_law_793 : decode cL_law 793 = .ok (.invokevirtual 106, 3) := by decide +kernel
theorem dL_law_796 : decode cL_law 796 = .ok (.aload_n 2, 1) := by decide +kernel
theorem dL_law_797 : decode cL_law 797 = .ok (.aload_n 0, 1) := by decide +kernel
theorem dL_law_798 : decode cL_law 798 = .ok (.iload 4, 2) := by decide +kernel
theorem dL_law_800 : decode cL_law 800 = .ok (.iconst 1, 1) := by decide +kernel
theorem dL_law_801 : decode cL_law 801 = .ok (.iadd, 1) := by decide +kernel
theorem dL_law_802 : decode cL_law 802 = .ok (.iaload, 1) := by decide +kernel
theorem dL_law_803 : decode cL_law 803 = .ok (.invokevirtual 109, 3) := by decide +kernel
theorem dL_law_806 : decode cL_law 806 = .ok (.if_icmp .eq 617, 3) := by decide +kernel
theorem dL_law_809 : decode cL_law 809 = .ok (.iconst 0, 1) := by decide +kernel
theorem dL_law_810 : decode cL_law 810 = .ok (.ireturn, 1) := by decide +kernel
theorem dL_law_811 : decode cL_law 811 = .ok (.aload_n 1, 1) := by decide +kernel
theorem dL_law_812 : decode cL_law 812 = .ok (.aload_n 0, 1) := by decide +kernel
theorem dL_law_813 : decode cL_law 813 = .ok (.iload 4, 2) := by decide +kernel
theorem dL_law_815 : decode cL_law 815 = .ok (.iconst 1, 1) := by decide +kernel
theorem dL_law_816 : decode cL_law 816 = .ok (.iadd, 1) := by decide +kernel
theorem dL_law_817 : decode cL_law 817 = .ok (.iaload, 1) := by decide +kernel
theorem dL_law_818 : decode cL_law 818 = .ok (.invokevirtual 110, 3) := by decide +kernel
theorem dL_law_821 : decode cL_law 821 = .ok (.aload_n 2, 1) := by decide +kernel
theorem dL_law_822 : decode cL_law 822 = .ok (.aload_n 0, 1) := by decide +kernel
theorem dL_law_823 : decode cL_law 823 = .ok (.iload 4, 2) := by decide +kernel
theorem dL_law_825 : decode cL_law 825 = .ok (.iconst 1, 1) := by decide +kernel
theorem dL_law_826 : decode cL_law 826 = .ok (.iadd, 1) := by decide +kernel
theorem dL_law_827 : decode cL_law 827 = .ok (.iaload, 1) := by decide +kernel
theorem dL_law_828 : decode cL_law 828 = .ok (.invokevirtual 113, 3) := by decide +kernel
theorem dL_law_831 : decode cL_law 831 = .ok (.if_icmp .eq 592, 3) := by decide +kernel
theorem dL_law_834 : decode cL_law 834 = .ok (.iconst 0, 1) := by decide +kernel
theorem dL_law_835 : decode cL_law 835 = .ok (.ireturn, 1) := by decide +kernel
theorem dL_law_836 : decode cL_law 836 = .ok (.aload_n 1, 1) := by decide +kernel
theorem dL_law_837 : decode cL_law 837 = .ok (.aload_n 0, 1) := by decide +kernel
theorem dL_law_838 : decode cL_law 838 = .ok (.iload 4, 2) := by decide +kernel
theorem dL_law_840 : decode cL_law 840 = .ok (.iconst 1, 1) := by decide +kernel
theorem dL_law_841 : decode cL_law 841 = .ok (.iadd, 1) := by decide +kernel
theorem dL_law_842 : decode cL_law 842 = .ok (.iaload, 1) := by decide +kernel
theorem dL_law_843 : decode cL_law 843 = .ok (.invokevirtual 114, 3) := by decide +kernel
theorem dL_law_846 : decode cL_law 846 = .ok (.aload_n 2, 1) := by decide +kernel
theorem dL_law_847 : decode cL_law 847 = .ok (.aload_n 0, 1) := by decide +kernel
theorem dL_law_848 : decode cL_law 848 = .ok (.iload 4, 2) := by decide +kernel
theorem dL_law_850 : decode cL_law 850 = .ok (.iconst 1, 1) := by decide +kernel
theorem dL_law_851 : decode cL_law 851 = .ok (.iadd, 1) := by decide +kernel
theorem dL_law_852 : decode cL_law 852 = .ok (.iaload, 1) := by decide +kernel
theorem dL_law_853 : decode cL_law 853 = .ok (.invokevirtual 117, 3) := by decide +kernel
theorem dL_law_856 : decode cL_law 856 = .ok (.if_icmp .eq 567, 3) := by decide +kernel
theorem dL_law_859 : decode cL_law 859 = .ok (.iconst 0, 1) := by decide +kernel
theorem dL_law_860 : decode cL_law 860 = .ok (.ireturn, 1) := by decide +kernel
theorem dL_law_861 : decode cL_law 861 = .ok (.aload_n 1, 1) := by decide +kernel
theorem dL_law_862 : decode cL_law 862 = .ok (.aload_n 0, 1) := by decide +kernel
theorem dL_law_863 : decode cL_law 863 = .ok (.iload 4, 2) := by decide +kernel
theorem dL_law_865 : decode cL_law 865 = .ok (.iconst 1, 1) := by decide +kernel
theorem dL_law_866 : decode cL_law 866 = .ok (.iadd, 1) := by decide +kernel
theorem dL_law_867 : decode cL_law 867 = .ok (.iaload, 1) := by decide +kernel
theorem dL_law_868 : decode cL_law 868 = .ok (.invokevirtual 118, 3) := by decide +kernel
theorem dL_law_871 : decode cL_law 871 = .ok (.aload_n 2, 1) := by decide +kernel
theorem dL_law_872 : decode cL_law 872 = .ok (.aload_n 0, 1) := by decide +kernel
theorem dL_law_873 : decode cL_law 873 = .ok (.iload 4, 2) := by decide +kernel
theorem dL_law_875 : decode cL_law 875 = .ok (.iconst 1, 1) := by decide +kernel
theorem dL_law_876 : decode cL_law 876 = .ok (.iadd, 1) := by decide +kernel
theorem dL_law_877 : decode cL_law 877 = .ok (.iaload, 1) := by decide +kernel
theorem dL_law_878 : decode cL_law 878 = .ok (.invokevirtual 121, 3) := by decide +kernel
theorem dL_law_881 : decode cL_law 881 = .ok (.if_icmp .eq 542, 3) := by decide +kernel
theorem dL_law_884 : decode cL_law 884 = .ok (.iconst 0, 1) := by decide +kernel
theorem dL_law_885 : decode cL_law 885 = .ok (.ireturn, 1) := by decide +kernel
theorem dL_law_886 : decode cL_law 886 = .ok (.aload_n 1, 1) := by decide +kernel
theorem dL_law_887 : decode cL_law 887 = .ok (.aload_n 0, 1) := by decide +kernel
theorem dL_law_888 : decode cL_law 888 = .ok (.iload 4, 2) := by decide +kernel
theorem dL_law_890 : decode cL_law 890 = .ok (.iconst 1, 1) := by decide +kernel
theorem dL_law_891 : decode cL_law 891 = .ok (.iadd, 1) := by decide +kernel
theorem dL_law_892 : decode cL_law 892 = .ok (.iaload, 1) := by decide +kernel
theorem dL_law_893 : decode cL_law 893 = .ok (.invokevirtual 122, 3) := by decide +kernel
theorem dL_law_896 : decode cL_law 896 = .ok (.aload_n 2, 1) := by decide +kernel
theorem dL_law_897 : decode cL_law 897 = .ok (.aload_n 0, 1) := by decide +kernel
theorem dL_law_898 : decode cL_law 898 = .ok (.iload 4, 2) := by decide +kernel
theorem dL_law_900 : decode cL_law 900 = .ok (.iconst 1, 1) := by decide +kernel
theorem dL_law_901 : decode cL_law 901 = .ok (.iadd, 1) := by decide +kernel
theorem dL_law_902 : decode cL_law 902 = .ok (.iaload, 1) := by decide +kernel
theorem dL_law_903 : decode cL_law 903 = .ok (.invokevirtual 125, 3) := by decide +kernel
theorem dL_law_906 : decode cL_law 906 = .ok (.if_icmp .eq 517, 3) := by decide +kernel
theorem dL_law_909 : decode cL_law 909 = .ok (.iconst 0, 1) := by decide +kernel
theorem dL_law_910 : decode cL_law 910 = .ok (.ireturn, 1) := by decide +kernel
theorem dL_law_911 : decode cL_law 911 = .ok (.aload_n 1, 1) := by decide +kernel
theorem dL_law_912 : decode cL_law 912 = .ok (.aload_n 0, 1) := by decide +kernel
theorem dL_law_913 : decode cL_law 913 = .ok (.iload 4, 2) := by decide +kernel
theorem dL_law_915 : decode cL_law 915 = .ok (.iconst 1, 1) := by decide +kernel
theorem dL_law_916 : decode cL_law 916 = .ok (.iadd, 1) := by decide +kernel
theorem dL_law_917 : decode cL_law 917 = .ok (.iaload, 1) := by decide +kernel
theorem dL_law_918 : decode cL_law 918 = .ok (.aload_n 0, 1) := by decide +kernel
theorem dL_law_919 : decode cL_law 919 = .ok (.iload 4, 2) := by decide +kernel
theorem dL_law_921 : decode cL_law 921 = .ok (.iconst 2, 1) := by decide +kernel
theorem dL_law_922 : decode cL_law 922 = .ok (.iadd, 1) := by decide +kernel
theorem dL_law_923 : decode cL_law 923 = .ok (.iaload, 1) := by decide +kernel
theorem dL_law_924 : decode cL_law 924 = .ok (.invokevirtual 126, 3) := by decide +kernel
theorem dL_law_927 : decode cL_law 927 = .ok (.aload_n 2, 1) := by decide +kernel
theorem dL_law_928 : decode cL_law 928 = .ok (.aload_n 0, 1) := by decide +kernel
theorem dL_law_929 : decode cL_law 929 = .ok (.iload 4, 2) := by decide +kernel
theorem dL_law_931 : decode cL_law 931 = .ok (.iconst 1, 1) := by decide +kernel
theorem dL_law_932 : decode cL_law 932 = .ok (.iadd, 1) := by decide +kernel
theorem dL_law_933 : decode cL_law 933 = .ok (.iaload, 1) := by decide +kernel
theorem dL_law_934 : decode cL_law 934 = .ok (.aload_n 0, 1) := by decide +kernel
theorem dL_law_935 : decode cL_law 935 = .ok (.iload 4, 2) := by decide +kernel
theorem dL_law_937 : decode cL_law 937 = .ok (.iconst 2, 1) := by decide +kernel
theorem dL_law_938 : decode cL_law 938 = .ok (.iadd, 1) := by decide +kernel
theorem dL_law_939 : decode cL_law 939 = .ok (.iaload, 1) := by decide +kernel
theorem dL_law_940 : decode cL_law 940 = .ok (.invokevirtual 129, 3) := by decide +kernel
theorem dL_law_943 : decode cL_law 943 = .ok (.if_icmp .eq 480, 3) := by decide +kernel
theorem dL_law_946 : decode cL_law 946 = .ok (.iconst 0, 1) := by decide +kernel
theorem dL_law_947 : decode cL_law 947 = .ok (.ireturn, 1) := by decide +kernel
theorem dL_law_948 : decode cL_law 948 = .ok (.aload_n 1, 1) := by decide +kernel
theorem dL_law_949 : decode cL_law 949 = .ok (.invokevirtual 130, 3) := by decide +kernel
theorem dL_law_952 : decode cL_law 952 = .ok (.aload_n 2, 1) := by decide +kernel
theorem dL_law_953 : decode cL_law 953 = .ok (.invokevirtual 133, 3) := by decide +kernel
theorem dL_law_956 : decode cL_law 956 = .ok (.if_icmp .eq 467, 3) := by decide +kernel
theorem dL_law_959 : decode cL_law 959 = .ok (.iconst 0, 1) := by decide +kernel
theorem dL_law_960 : decode cL_law 960 = .ok (.ireturn, 1) := by decide +kernel
theorem dL_law_961 : decode cL_law 961 = .ok (.aload_n 1, 1) := by decide +kernel
theorem dL_law_962 : decode cL_law 962 = .ok (.invokevirtual 134, 3) := by decide +kernel
theorem dL_law_965 : decode cL_law 965 = .ok (.aload_n 2, 1) := by decide +kernel
theorem dL_law_966 : decode cL_law 966 = .ok (.invokevirtual 137, 3) := by decide +kernel
theorem dL_law_969 : decode cL_law 969 = .ok (.if_icmp .eq 454, 3) := by decide +kernel
theorem dL_law_972 : decode cL_law 972 = .ok (.iconst 0, 1) := by decide +kernel
theorem dL_law_973 : decode cL_law 973 = .ok (.ireturn, 1) := by decide +kernel
theorem dL_law_974 : decode cL_law 974 = .ok (.aload_n 1, 1) := by decide +kernel
theorem dL_law_975 : decode cL_law 975 = .ok (.aload_n 0, 1) := by decide +kernel
theorem dL_law_976 : decode cL_law 976 = .ok (.iload 4, 2) := by decide +kernel
theorem dL_law_978 : decode cL_law 978 = .ok (.iconst 1, 1) := by decide +kernel
theorem dL_law_979 : decode cL_law 979 = .ok (.iadd, 1) := by decide +kernel
theorem dL_law_980 : decode cL_law 980 = .ok (.iaload, 1) := by decide +kernel
theorem dL_law_981 : decode cL_law 981 = .ok (.invokevirtual 138, 3) := by decide +kernel
theorem dL_law_984 : decode cL_law 984 = .ok (.aload_n 2, 1) := by decide +kernel
theorem dL_law_985 : decode cL_law 985 = .ok (.aload_n 0, 1) := by decide +kernel
theorem dL_law_986 : decode cL_law 986 = .ok (.iload 4, 2) := by decide +kernel
theorem dL_law_988 : decode cL_law 988 = .ok (.iconst 1, 1) := by decide +kernel
theorem dL_law_989 : decode cL_law 989 = .ok (.iadd, 1) := by decide +kernel
theorem dL_law_990 : decode cL_law 990 = .ok (.iaload, 1) := by decide +kernel
theorem dL_law_991 : decode cL_law 991 = .ok (.invokevirtual 141, 3) := by decide +kernel
theorem dL_law_994 : decode cL_law 994 = .ok (.if_icmp .eq 429, 3) := by decide +kernel
theorem dL_law_997 : decode cL_law 997 = .ok (.iconst 0, 1) := by decide +kernel
theorem dL_law_998 : decode cL_law 998 = .ok (.ireturn, 1) := by decide +kernel
theorem dL_law_999 : decode cL_law 999 = .ok (.aload_n 1, 1) := by decide +kernel
theorem dL_law_1000 : decode cL_law 1000 = .ok (.invokevirtual 142, 3) := by decide +kernel
theorem dL_law_1003 : decode cL_law 1003 = .ok (.aload_n 2, 1) := by decide +kernel
theorem dL_law_1004 : decode cL_law 1004 = .ok (.invokevirtual 145, 3) := by decide +kernel
theorem dL_law_1007 : decode cL_law 1007 = .ok (.if_icmp .eq 416, 3) := by decide +kernel
theorem dL_law_1010 : decode cL_law 1010 = .ok (.iconst 0, 1) := by decide +kernel
theorem dL_law_1011 : decode cL_law 1011 = .ok (.ireturn, 1) := by decide +kernel
theorem dL_law_1012 : decode cL_law 1012 = .ok (.aload_n 1, 1) := by decide +kernel
theorem dL_law_1013 : decode cL_law 1013 = .ok (.invokevirtual 146, 3) := by decide +kernel
theorem dL_law_1016 : decode cL_law 1016 = .ok (.aload_n 2, 1) := by decide +kernel
theorem dL_law_1017 : decode cL_law 1017 = .ok (.invokevirtual 149, 3) := by decide +kernel
theorem dL_law_1020 : decode cL_law 1020 = .ok (.if_icmp .eq 403, 3) := by decide +kernel
theorem dL_law_1023 : decode cL_law 1023 = .ok (.iconst 0, 1) := by decide +kernel
theorem dL_law_1024 : decode cL_law 1024 = .ok (.ireturn, 1) := by decide +kernel
theorem dL_law_1025 : decode cL_law 1025 = .ok (.aload_n 1, 1) := by decide +kernel
theorem dL_law_1026 : decode cL_law 1026 = .ok (.invokevirtual 150, 3) := by decide +kernel
theorem dL_law_1029 : decode cL_law 1029 = .ok (.aload_n 2, 1) := by decide +kernel
theorem dL_law_1030 : decode cL_law 1030 = .ok (.invokevirtual 153, 3) := by decide +kernel
theorem dL_law_1033 : decode cL_law 1033 = .ok (.if_icmp .eq 390, 3) := by decide +kernel
theorem dL_law_1036 : decode cL_law 1036 = .ok (.iconst 0, 1) := by decide +kernel
theorem dL_law_1037 : decode cL_law 1037 = .ok (.ireturn, 1) := by decide +kernel
theorem dL_law_1038 : decode cL_law 1038 = .ok (.aload_n 1, 1) := by decide +kernel
theorem dL_law_1039 : decode cL_law 1039 = .ok (.invokevirtual 154, 3) := by decide +kernel
theorem dL_law_1042 : decode cL_law 1042 = .ok (.aload_n 2, 1) := by decide +kernel
theorem dL_law_1043 : decode cL_law 1043 = .ok (.invokevirtual 157, 3) := by decide +kernel
theorem dL_law_1046 : decode cL_law 1046 = .ok (.if_icmp .eq 377, 3) := by decide +kernel
theorem dL_law_1049 : decode cL_law 1049 = .ok (.iconst 0, 1) := by decide +kernel
theorem dL_law_1050 : decode cL_law 1050 = .ok (.ireturn, 1) := by decide +kernel
theorem dL_law_1051 : decode cL_law 1051 = .ok (.aload_n 1, 1) := by decide +kernel
theorem dL_law_1052 : decode cL_law 1052 = .ok (.invokevirtual 158, 3) := by decide +kernel
theorem dL_law_1055 : decode cL_law 1055 = .ok (.aload_n 2, 1) := by decide +kernel
theorem dL_law_1056 : decode cL_law 1056 = .ok (.invokevirtual 161, 3) := by decide +kernel
theorem dL_law_1059 : decode cL_law 1059 = .ok (.if_icmp .eq 364, 3) := by decide +kernel
theorem dL_law_1062 : decode cL_law 1062 = .ok (.iconst 0, 1) := by decide +kernel
theorem dL_law_1063 : decode cL_law 1063 = .ok (.ireturn, 1) := by decide +kernel
theorem dL_law_1064 : decode cL_law 1064 = .ok (.aload_n 1, 1) := by decide +kernel
theorem dL_law_1065 : decode cL_law 1065 = .ok (.aload_n 0, 1) := by decide +kernel
theorem dL_law_1066 : decode cL_law 1066 = .ok (.iload 4, 2) := by decide +kernel
theorem dL_law_1068 : decode cL_law 1068 = .ok (.iconst 1, 1) := by decide +kernel
theorem dL_law_1069 : decode cL_law 1069 = .ok (.iadd, 1) := by decide +kernel
theorem dL_law_1070 : decode cL_law 1070 = .ok (.iaload, 1) := by decide +kernel
theorem dL_law_1071 : decode cL_law 1071 = .ok (.aload_n 0, 1) := by decide +kernel
theorem dL_law_1072 : decode cL_law 1072 = .ok (.iload 4, 2) := by decide +kernel
theorem dL_law_1074 : decode cL_law 1074 = .ok (.iconst 2, 1) := by decide +kernel
theorem dL_law_1075 : decode cL_law 1075 = .ok (.iadd, 1) := by decide +kernel
theorem dL_law_1076 : decode cL_law 1076 = .ok (.iaload, 1) := by decide +kernel
theorem dL_law_1077 : decode cL_law 1077 = .ok (.aload_n 0, 1) := by decide +kernel
theorem dL_law_1078 : decode cL_law 1078 = .ok (.iload 4, 2) := by decide +kernel
theorem dL_law_1080 : decode cL_law 1080 = .ok (.iconst 3, 1) := by decide +kernel
theorem dL_law_1081 : decode cL_law 1081 = .ok (.iadd, 1) := by decide +kernel
theorem dL_law_1082 : decode cL_law 1082 = .ok (.iaload, 1) := by decide +kernel
theorem dL_law_1083 : decode cL_law 1083 = .ok (.ifCond .eq 7, 3) := by decide +kernel
theorem dL_law_1086 : decode cL_law 1086 = .ok (.iconst 1, 1) := by decide +kernel
theorem dL_law_1087 : decode cL_law 1087 = .ok (.goto 4, 3) := by decide +kernel
theorem dL_law_1090 : decode cL_law 1090 = .ok (.iconst 0, 1) := by decide +kernel
theorem dL_law_1091 : decode cL_law 1091 = .ok (.invokevirtual 162, 3) := by decide +kernel
theorem dL_law_1094 : decode cL_law 1094 = .ok (.aload_n 2, 1) := by decide +kernel
theorem dL_law_1095 : decode cL_law 1095 = .ok (.aload_n 0, 1) := by decide +kernel
theorem dL_law_1096 : decode cL_law 1096 = .ok (.iload 4, 2) := by decide +kernel
theorem dL_law_1098 : decode cL_law 1098 = .ok (.iconst 1, 1) := by decide +kernel
theorem dL_law_1099 : decode cL_law 1099 = .ok (.iadd, 1) := by decide +kernel
theorem dL_law_1100 : decode cL_law 1100 = .ok (.iaload, 1) := by decide +kernel
theorem dL_law_1101 : decode cL_law 1101 = .ok (.aload_n 0, 1) := by decide +kernel
theorem dL_law_1102 : decode cL_law 1102 = .ok (.iload 4, 2) := by decide +kernel
theorem dL_law_1104 : decode cL_law 1104 = .ok (.iconst 2, 1) := by decide +kernel
theorem dL_law_1105 : decode cL_law 1105 = .ok (.iadd, 1) := by decide +kernel
theorem dL_law_1106 : decode cL_law 1106 = .ok (.iaload, 1) := by decide +kernel
theorem dL_law_1107 : decode cL_law 1107 = .ok (.aload_n 0, 1) := by decide +kernel
theorem dL_law_1108 : decode cL_law 1108 = .ok (.iload 4, 2) := by decide +kernel
theorem dL_law_1110 : decode cL_law 1110 = .ok (.iconst 3, 1) := by decide +kernel
theorem dL_law_1111 : decode cL_law 1111 = .ok (.iadd, 1) := by decide +kernel
theorem dL_law_1112 : decode cL_law 1112 = .ok (.iaload, 1) := by decide +kernel
theorem dL_law_1113 : decode cL_law 1113 = .ok (.ifCond .eq 7, 3) := by decide +kernel
theorem dL_law_1116 : decode cL_law 1116 = .ok (.iconst 1, 1) := by decide +kernel
theorem dL_law_1117 : decode cL_law 1117 = .ok (.goto 4, 3) := by decide +kernel
theorem dL_law_1120 : decode cL_law 1120 = .ok (.iconst 0, 1) := by decide +kernel
theorem dL_law_1121 : decode cL_law 1121 = .ok (.invokevirtual 166, 3) := by decide +kernel
theorem dL_law_1124 : decode cL_law 1124 = .ok (.if_icmp .eq 299, 3) := by decide +kernel
theorem dL_law_1127 : decode cL_law 1127 = .ok (.iconst 0, 1) := by decide +kernel
theorem dL_law_1128 : decode cL_law 1128 = .ok (.ireturn, 1) := by decide +kernel
theorem dL_law_1129 : decode cL_law 1129 = .ok (.aload_n 1, 1) := by decide +kernel
theorem dL_law_1130 : decode cL_law 1130 = .ok (.invokevirtual 167, 3) := by decide +kernel
theorem dL_law_1133 : decode cL_law 1133 = .ok (.aload_n 2, 1) := by decide +kernel
theorem dL_law_1134 : decode cL_law 1134 = .ok (.invokevirtual 170, 3) := by decide +kernel
theorem dL_law_1137 : decode cL_law 1137 = .ok (.if_icmp .eq 286, 3) := by decide +kernel
theorem dL_law_1140 : decode cL_law 1140 = .ok (.iconst 0, 1) := by decide +kernel
theorem dL_law_1141 : decode cL_law 1141 = .ok (.ireturn, 1) := by decide +kernel
theorem dL_law_1142 : decode cL_law 1142 = .ok (.aload_n 1, 1) := by decide +kernel
theorem dL_law_1143 : decode cL_law 1143 = .ok (.invokevirtual 171, 3) := by decide +kernel
theorem dL_law_1146 : decode cL_law 1146 = .ok (.aload_n 2, 1) := by decide +kernel
theorem dL_law_1147 : decode cL_law 1147 = .ok (.invokevirtual 174, 3) := by decide +kernel
theorem dL_law_1150 : decode cL_law 1150 = .ok (.if_icmp .eq 273, 3) := by decide +kernel
theorem dL_law_1153 : decode cL_law 1153 = .ok (.iconst 0, 1) := by decide +kernel
theorem dL_law_1154 : decode cL_law 1154 = .ok (.ireturn, 1) := by decide +kernel
theorem dL_law_1155 : decode cL_law 1155 = .ok (.aload_n 1, 1) := by decide +kernel
theorem dL_law_1156 : decode cL_law 1156 = .ok (.aload_n 0, 1) := by decide +kernel
theorem dL_law_1157 : decode cL_law 1157 = .ok (.iload 4, 2) := by decide +kernel
theorem dL_law_1159 : decode cL_law 1159 = .ok (.iconst 1, 1) := by decide +kernel
theorem dL_law_1160 : decode cL_law 1160 = .ok (.iadd, 1) := by decide +kernel
theorem dL_law_1161 : decode cL_law 1161 = .ok (.iaload, 1) := by decide +kernel
theorem dL_law_1162 : decode cL_law 1162 = .ok (.aload_n 0, 1) := by decide +kernel
theorem dL_law_1163 : decode cL_law 1163 = .ok (.iload 4, 2) := by decide +kernel
theorem dL_law_1165 : decode cL_law 1165 = .ok (.iconst 2, 1) := by decide +kernel
theorem dL_law_1166 : decode cL_law 1166 = .ok (.iadd, 1) := by decide +kernel
theorem dL_law_1167 : decode cL_law 1167 = .ok (.iaload, 1) := by decide +kernel
theorem dL_law_1168 : decode cL_law 1168 = .ok (.aload_n 0, 1) := by decide +kernel
theorem dL_law_1169 : decode cL_law 1169 = .ok (.iload 4, 2) := by decide +kernel
theorem dL_law_1171 : decode cL_law 1171 = .ok (.iconst 3, 1) := by decide +kernel
theorem dL_law_1172 : decode cL_law 1172 = .ok (.iadd, 1) := by decide +kernel
theorem dL_law_1173 : decode cL_law 1173 = .ok (.iaload, 1) := by decide +kernel
theorem dL_law_1174 : decode cL_law 1174 = .ok (.invokevirtual 175, 3) := by decide +kernel
theorem dL_law_1177 : decode cL_law 1177 = .ok (.aload_n 2, 1) := by decide +kernel
theorem dL_law_1178 : decode cL_law 1178 = .ok (.aload_n 0, 1) := by decide +kernel
theorem dL_law_1179 : decode cL_law 1179 = .ok (.iload 4, 2) := by decide +kernel
theorem dL_law_1181 : decode cL_law 1181 = .ok (.iconst 1, 1) := by decide +kernel
theorem dL_law_1182 : decode cL_law 1182 = .ok (.iadd, 1) := by decide +kernel
theorem dL_law_1183 : decode cL_law 1183 = .ok (.iaload, 1) := by decide +kernel
theorem dL_law_1184 : decode cL_law 1184 = .ok (.aload_n 0, 1) := by decide +kernel
theorem dL_law_1185 : decode cL_law 1185 = .ok (.iload 4, 2) := by decide +kernel
theorem dL_law_1187 : decode cL_law 1187 = .ok (.iconst 2, 1) := by decide +kernel
theorem dL_law_1188 : decode cL_law 1188 = .ok (.iadd, 1) := by decide +kernel
theorem dL_law_1189 : decode cL_law 1189 = .ok (.iaload, 1) := by decide +kernel
theorem dL_law_1190 : decode cL_law 1190 = .ok (.aload_n 0, 1) := by decide +kernel
theorem dL_law_1191 : decode cL_law 1191 = .ok (.iload 4, 2) := by decide +kernel
theorem dL_law_1193 : decode cL_law 1193 = .ok (.iconst 3, 1) := by decide +kernel
theorem dL_law_1194 : decode cL_law 1194 = .ok (.iadd, 1) := by decide +kernel
theorem dL_law_1195 : decode cL_law 1195 = .ok (.iaload, 1) := by decide +kernel
theorem dL_law_1196 : decode cL_law 1196 = .ok (.invokevirtual 179, 3) := by decide +kernel
theorem dL_law_1199 : decode cL_law 1199 = .ok (.if_icmp .eq 224, 3) := by decide +kernel
theorem dL_law_1202 : decode cL_law 1202 = .ok (.iconst 0, 1) := by decide +kernel
theorem dL_law_1203 : decode cL_law 1203 = .ok (.ireturn, 1) := by decide +kernel
theorem dL_law_1204 : decode cL_law 1204 = .ok (.aload_n 1, 1) := by decide +kernel
theorem dL_law_1205 : decode cL_law 1205 = .ok (.aload_n 0, 1) := by decide +kernel
theorem dL_law_1206 : decode cL_law 1206 = .ok (.iload 4, 2) := by decide +kernel
theorem dL_law_1208 : decode cL_law 1208 = .ok (.iconst 1, 1) := by decide +kernel
theorem dL_law_1209 : decode cL_law 1209 = .ok (.iadd, 1) := by decide +kernel
theorem dL_law_1210 : decode cL_law 1210 = .ok (.iaload, 1) := by decide +kernel
theorem dL_law_1211 : decode cL_law 1211 = .ok (.aload_n 0, 1) := by decide +kernel
theorem dL_law_1212 : decode cL_law 1212 = .ok (.iload 4, 2) := by decide +kernel
theorem dL_law_1214 : decode cL_law 1214 = .ok (.iconst 2, 1) := by decide +kernel
theorem dL_law_1215 : decode cL_law 1215 = .ok (.iadd, 1) := by decide +kernel
theorem dL_law_1216 : decode cL_law 1216 = .ok (.iaload, 1) := by decide +kernel
theorem dL_law_1217 : decode cL_law 1217 = .ok (.aload_n 0, 1) := by decide +kernel
theorem dL_law_1218 : decode cL_law 1218 = .ok (.iload 4, 2) := by decide +kernel
theorem dL_law_1220 : decode cL_law 1220 = .ok (.iconst 3, 1) := by decide +kernel
theorem dL_law_1221 : decode cL_law 1221 = .ok (.iadd, 1) := by decide +kernel
theorem dL_law_1222 : decode cL_law 1222 = .ok (.iaload, 1) := by decide +kernel
theorem dL_law_1223 : decode cL_law 1223 = .ok (.aload_n 0, 1) := by decide +kernel
theorem dL_law_1224 : decode cL_law 1224 = .ok (.iload 4, 2) := by decide +kernel
theorem dL_law_1226 : decode cL_law 1226 = .ok (.iconst 4, 1) := by decide +kernel
theorem dL_law_1227 : decode cL_law 1227 = .ok (.iadd, 1) := by decide +kernel
theorem dL_law_1228 : decode cL_law 1228 = .ok (.iaload, 1) := by decide +kernel
theorem dL_law_1229 : decode cL_law 1229 = .ok (.aload_n 3, 1) := by decide +kernel
theorem dL_law_1230 : decode cL_law 1230 = .ok (.invokestatic 180, 3) := by decide +kernel
theorem dL_law_1233 : decode cL_law 1233 = .ok (.istore 5, 2) := by decide +kernel
theorem dL_law_1235 : decode cL_law 1235 = .ok (.aload_n 2, 1) := by decide +kernel
theorem dL_law_1236 : decode cL_law 1236 = .ok (.aload_n 0, 1) := by decide +kernel
theorem dL_law_1237 : decode cL_law 1237 = .ok (.iload 4, 2) := by decide +kernel
theorem dL_law_1239 : decode cL_law 1239 = .ok (.iconst 1, 1) := by decide +kernel
theorem dL_law_1240 : decode cL_law 1240 = .ok (.iadd, 1) := by decide +kernel
theorem dL_law_1241 : decode cL_law 1241 = .ok (.iaload, 1) := by decide +kernel
theorem dL_law_1242 : decode cL_law 1242 = .ok (.aload_n 0, 1) := by decide +kernel
theorem dL_law_1243 : decode cL_law 1243 = .ok (.iload 4, 2) := by decide +kernel
theorem dL_law_1245 : decode cL_law 1245 = .ok (.iconst 2, 1) := by decide +kernel
theorem dL_law_1246 : decode cL_law 1246 = .ok (.iadd, 1) := by decide +kernel
theorem dL_law_1247 : decode cL_law 1247 = .ok (.iaload, 1) := by decide +kernel
theorem dL_law_1248 : decode cL_law 1248 = .ok (.aload_n 0, 1) := by decide +kernel
theorem dL_law_1249 : decode cL_law 1249 = .ok (.iload 4, 2) := by decide +kernel
theorem dL_law_1251 : decode cL_law 1251 = .ok (.iconst 3, 1) := by decide +kernel
theorem dL_law_1252 : decode cL_law 1252 = .ok (.iadd, 1) := by decide +kernel
theorem dL_law_1253 : decode cL_law 1253 = .ok (.iaload, 1) := by decide +kernel
theorem dL_law_1254 : decode cL_law 1254 = .ok (.aload_n 0, 1) := by decide +kernel
theorem dL_law_1255 : decode cL_law 1255 = .ok (.iload 4, 2) := by decide +kernel
theorem dL_law_1257 : decode cL_law 1257 = .ok (.iconst 4, 1) := by decide +kernel
theorem dL_law_1258 : decode cL_law 1258 = .ok (.iadd, 1) := by decide +kernel
theorem dL_law_1259 : decode cL_law 1259 = .ok (.iaload, 1) := by decide +kernel
theorem dL_law_1260 : decode cL_law 1260 = .ok (.invokevirtual 185, 3) := by decide +kernel
theorem dL_law_1263 : decode cL_law 1263 = .ok (.istore 6, 2) := by decide +kernel
theorem dL_law_1265 : decode cL_law 1265 = .ok (.aload_n 2, 1) := by decide +kernel
theorem dL_law_1266 : decode cL_law 1266 = .ok (.invokevirtual 186, 3) := by decide +kernel
theorem dL_law_1269 : decode cL_law 1269 = .ok (.iload 5, 2) := by decide +kernel
theorem dL_law_1271 : decode cL_law 1271 = .ok (.if_icmp .eq 5, 3) := by decide +kernel
theorem dL_law_1274 : decode cL_law 1274 = .ok (.iconst 0, 1) := by decide +kernel
theorem dL_law_1275 : decode cL_law 1275 = .ok (.ireturn, 1) := by decide +kernel
theorem dL_law_1276 : decode cL_law 1276 = .ok (.iload 5, 2) := by decide +kernel
theorem dL_law_1278 : decode cL_law 1278 = .ok (.ifCond .ne 15, 3) := by decide +kernel
theorem dL_law_1281 : decode cL_law 1281 = .ok (.aload_n 3, 1) := by decide +kernel
theorem dL_law_1282 : decode cL_law 1282 = .ok (.iconst 0, 1) := by decide +kernel
theorem dL_law_1283 : decode cL_law 1283 = .ok (.laload, 1) := by decide +kernel
theorem dL_law_1284 : decode cL_law 1284 = .ok (.iload 6, 2) := by decide +kernel
theorem dL_law_1286 : decode cL_law 1286 = .ok (.i2l, 1) := by decide +kernel
theorem dL_law_1287 : decode cL_law 1287 = .ok (.lcmp, 1) := by decide +kernel
theorem dL_law_1288 : decode cL_law 1288 = .ok (.ifCond .eq 5, 3) := by decide +kernel
theorem dL_law_1291 : decode cL_law 1291 = .ok (.iconst 0, 1) := by decide +kernel
theorem dL_law_1292 : decode cL_law 1292 = .ok (.ireturn, 1) := by decide +kernel
theorem dL_law_1293 : decode cL_law 1293 = .ok (.goto 130, 3) := by decide +kernel
theorem dL_law_1296 : decode cL_law 1296 = .ok (.aload_n 1, 1) := by decide +kernel
theorem dL_law_1297 : decode cL_law 1297 = .ok (.aload_n 0, 1) := by decide +kernel
theorem dL_law_1298 : decode cL_law 1298 = .ok (.iload 4, 2) := by decide +kernel
theorem dL_law_1300 : decode cL_law 1300 = .ok (.iconst 1, 1) := by decide +kernel
theorem dL_law_1301 : decode cL_law 1301 = .ok (.iadd, 1) := by decide +kernel
theorem dL_law_1302 : decode cL_law 1302 = .ok (.iaload, 1) := by decide +kernel
theorem dL_law_1303 : decode cL_law 1303 = .ok (.aload_n 0, 1) := by decide +kernel
theorem dL_law_1304 : decode cL_law 1304 = .ok (.iload 4, 2) := by decide +kernel
theorem dL_law_1306 : decode cL_law 1306 = .ok (.iconst 2, 1) := by decide +kernel
theorem dL_law_1307 : decode cL_law 1307 = .ok (.iadd, 1) := by decide +kernel
theorem dL_law_1308 : decode cL_law 1308 = .ok (.iaload, 1) := by decide +kernel
theorem dL_law_1309 : decode cL_law 1309 = .ok (.aload_n 0, 1) := by decide +kernel
theorem dL_law_1310 : decode cL_law 1310 = .ok (.iload 4, 2) := by decide +kernel
theorem dL_law_1312 : decode cL_law 1312 = .ok (.iconst 3, 1) := by decide +kernel
theorem dL_law_1313 : decode cL_law 1313 = .ok (.iadd, 1) := by decide +kernel
theorem dL_law_1314 : decode cL_law 1314 = .ok (.iaload, 1) := by decide +kernel
theorem dL_law_1315 : decode cL_law 1315 = .ok (.invokevirtual 189, 3) := by decide +kernel
theorem dL_law_1318 : decode cL_law 1318 = .ok (.aload_n 2, 1) := by decide +kernel
theorem dL_law_1319 : decode cL_law 1319 = .ok (.aload_n 0, 1) := by decide +kernel
theorem dL_law_1320 : decode cL_law 1320 = .ok (.iload 4, 2) := by decide +kernel
theorem dL_law_1322 : decode cL_law 1322 = .ok (.iconst 1, 1) := by decide +kernel
theorem dL_law_1323 : decode cL_law 1323 = .ok (.iadd, 1) := by decide +kernel
theorem dL_law_1324 : decode cL_law 1324 = .ok (.iaload, 1) := by decide +kernel
theorem dL_law_1325 : decode cL_law 1325 = .ok (.aload_n 0, 1) := by decide +kernel
theorem dL_law_1326 : decode cL_law 1326 = .ok (.iload 4, 2) := by decide +kernel
theorem dL_law_1328 : decode cL_law 1328 = .ok (.iconst 2, 1) := by decide +kernel
theorem dL_law_1329 : decode cL_law 1329 = .ok (.iadd, 1) := by decide +kernel
theorem dL_law_1330 : decode cL_law 1330 = .ok (.iaload, 1) := by decide +kernel
theorem dL_law_1331 : decode cL_law 1331 = .ok (.aload_n 0, 1) := by decide +kernel
theorem dL_law_1332 : decode cL_law 1332 = .ok (.iload 4, 2) := by decide +kernel
theorem dL_law_1334 : decode cL_law 1334 = .ok (.iconst 3, 1) := by decide +kernel
theorem dL_law_1335 : decode cL_law 1335 = .ok (.iadd, 1) := by decide +kernel
theorem dL_law_1336 : decode cL_law 1336 = .ok (.iaload, 1) := by decide +kernel
theorem dL_law_1337 : decode cL_law 1337 = .ok (.invokevirtual 192, 3) := by decide +kernel
theorem dL_law_1340 : decode cL_law 1340 = .ok (.if_icmp .eq 83, 3) := by decide +kernel
theorem dL_law_1343 : decode cL_law 1343 = .ok (.iconst 0, 1) := by decide +kernel
theorem dL_law_1344 : decode cL_law 1344 = .ok (.ireturn, 1) := by decide +kernel
theorem dL_law_1345 : decode cL_law 1345 = .ok (.aload_n 1, 1) := by decide +kernel
theorem dL_law_1346 : decode cL_law 1346 = .ok (.aload_n 0, 1) := by decide +kernel
theorem dL_law_1347 : decode cL_law 1347 = .ok (.iload 4, 2) := by decide +kernel
theorem dL_law_1349 : decode cL_law 1349 = .ok (.iconst 1, 1) := by decide +kernel
theorem dL_law_1350 : decode cL_law 1350 = .ok (.iadd, 1) := by decide +kernel
theorem dL_law_1351 : decode cL_law 1351 = .ok (.iaload, 1) := by decide +kernel
theorem dL_law_1352 : decode cL_law 1352 = .ok (.aload_n 0, 1) := by decide +kernel
theorem dL_law_1353 : decode cL_law 1353 = .ok (.iload 4, 2) := by decide +kernel
theorem dL_law_1355 : decode cL_law 1355 = .ok (.iconst 2, 1) := by decide +kernel
theorem dL_law_1356 : decode cL_law 1356 = .ok (.iadd, 1) := by decide +kernel
theorem dL_law_1357 : decode cL_law 1357 = .ok (.iaload, 1) := by decide +kernel
theorem dL_law_1358 : decode cL_law 1358 = .ok (.ifCond .eq 7, 3) := by decide +kernel
theorem dL_law_1361 : decode cL_law 1361 = .ok (.iconst 1, 1) := by decide +kernel
theorem dL_law_1362 : decode cL_law 1362 = .ok (.goto 4, 3) := by decide +kernel
theorem dL_law_1365 : decode cL_law 1365 = .ok (.iconst 0, 1) := by decide +kernel
theorem dL_law_1366 : decode cL_law 1366 = .ok (.invokevirtual 193, 3) := by decide +kernel
theorem dL_law_1369 : decode cL_law 1369 = .ok (.aload_n 2, 1) := by decide +kernel
theorem dL_law_1370 : decode cL_law 1370 = .ok (.aload_n 0, 1) := by decide +kernel
theorem dL_law_1371 : decode cL_law 1371 = .ok (.iload 4, 2) := by decide +kernel
theorem dL_law_1373 : decode cL_law 1373 = .ok (.iconst 1, 1) := by decide +kernel
theorem dL_law_1374 : decode cL_law 1374 = .ok (.iadd, 1) := by decide +kernel
theorem dL_law_1375 : decode cL_law 1375 = .ok (.iaload, 1) := by decide +kernel
theorem dL_law_1376 : decode cL_law 1376 = .ok (.aload_n 0, 1) := by decide +kernel
theorem dL_law_1377 : decode cL_law 1377 = .ok (.iload 4, 2) := by decide +kernel
theorem dL_law_1379 : decode cL_law 1379 = .ok (.iconst 2, 1) := by decide +kernel
theorem dL_law_1380 : decode cL_law 1380 = .ok (.iadd, 1) := by decide +kernel
theorem dL_law_1381 : decode cL_law 1381 = .ok (.iaload, 1) := by decide +kernel
theorem dL_law_1382 : decode cL_law 1382 = .ok (.ifCond .eq 7, 3) := by decide +kernel
theorem dL_law_1385 : decode cL_law 1385 = .ok (.iconst 1, 1) := by decide +kernel
theorem dL_law_1386 : decode cL_law 1386 = .ok (.goto 4, 3) := by decide +kernel
theorem dL_law_1389 : decode cL_law 1389 = .ok (.iconst 0, 1) := by decide +kernel
theorem dL_law_1390 : decode cL_law 1390 = .ok (.invokevirtual 197, 3) := by decide +kernel
theorem dL_law_1393 : decode cL_law 1393 = .ok (.if_icmp .eq 30, 3) := by decide +kernel
theorem dL_law_1396 : decode cL_law 1396 = .ok (.iconst 0, 1) := by decide +kernel
theorem dL_law_1397 : decode cL_law 1397 = .ok (.ireturn, 1) := by decide +kernel
theorem dL_law_1398 : decode cL_law 1398 = .ok (.aload_n 1, 1) := by decide +kernel
theorem dL_law_1399 : decode cL_law 1399 = .ok (.aload_n 0, 1) := by decide +kernel
theorem dL_law_1400 : decode cL_law 1400 = .ok (.iload 4, 2) := by decide +kernel
theorem dL_law_1402 : decode cL_law 1402 = .ok (.iconst 1, 1) := by decide +kernel
theorem dL_law_1403 : decode cL_law 1403 = .ok (.iadd, 1) := by decide +kernel
theorem dL_law_1404 : decode cL_law 1404 = .ok (.iaload, 1) := by decide +kernel
theorem dL_law_1405 : decode cL_law 1405 = .ok (.invokevirtual 198, 3) := by decide +kernel
theorem dL_law_1408 : decode cL_law 1408 = .ok (.aload_n 2, 1) := by decide +kernel
theorem dL_law_1409 : decode cL_law 1409 = .ok (.aload_n 0, 1) := by decide +kernel
theorem dL_law_1410 : decode cL_law 1410 = .ok (.iload 4, 2) := by decide +kernel
theorem dL_law_1412 : decode cL_law 1412 = .ok (.iconst 1, 1) := by decide +kernel
theorem dL_law_1413 : decode cL_law 1413 = .ok (.iadd, 1) := by decide +kernel
theorem dL_law_1414 : decode cL_law 1414 = .ok (.iaload, 1) := by decide +kernel
theorem dL_law_1415 : decode cL_law 1415 = .ok (.invokevirtual 201, 3) := by decide +kernel
theorem dL_law_1418 : decode cL_law 1418 = .ok (.if_icmp .eq 5, 3) := by decide +kernel
theorem dL_law_1421 : decode cL_law 1421 = .ok (.iconst 0, 1) := by decide +kernel
theorem dL_law_1422 : decode cL_law 1422 = .ok (.ireturn, 1) := by decide +kernel
theorem dL_law_1423 : decode cL_law 1423 = .ok (.iinc 4 7, 3) := by decide +kernel
theorem dL_law_1426 : decode cL_law 1426 = .ok (.goto (-1403), 3) := by decide +kernel
theorem dL_law_1429 : decode cL_law 1429 = .ok (.iconst 1, 1) := by decide +kernel
theorem dL_law_1430 : decode cL_law 1430 = .ok (.ireturn, 1) := by decide +kernel
def fL_law_b1390 (n : Nat) (K23 : Nat → Nat → Nat → Nat → Int32 → qH → Option (Int32 × qH)) (v0 : Nat) (v1 : Nat) (v2 : Nat) (v3 : Nat) (v4 : Int32) (s0 : Int32) (s1 : Int32) (s2 : Nat) (s3 : Int32) (h : qH) : Option (Int32 × qH) :=
  (fX10_mark n s2 s1 s0 h).bind fun p1 =>
  if s3 = p1.1 then
  (K23 v0 v1 v2 v3 (v4 + 7) p1.2)
  else
  (some (0, p1.2))
set_option maxHeartbeats 4000000 in
set_option maxRecDepth 100000 in
theorem okL_law_b1390 {l : Launch} {n : Nat} {K23 : Nat → Nat → Nat → Nat → Int32 → qH → Option (Int32 × qH)} {v0 : Nat} {v1 : Nat} {v2 : Nat} {v3 : Nat} {v4 : Int32} {s0 : Int32} {s1 : Int32} {s2 : Nat} {s3 : Int32} {h : qH} {r : Int32} {h' : qH} (hfl : l.stackTraces = false) (hK23 : ∀ (v0 : Nat) (v1 : Nat) (v2 : Nat) (v3 : Nat) (v4 : Int32) (h : qH), K23 v0 v1 v2 v3 v4 h = some (r, h') → q_W l 55 yL_law cL_law 7 (some .boolean) (some (.int r)) h' 23 [(0, .ref v0), (1, .ref v1), (2, .ref v2), (3, .ref v3), (4, .int v4)] [] h) (hyp : fL_law_b1390 n K23 v0 v1 v2 v3 v4 s0 s1 s2 s3 h = some (r, h')) : q_W l 55 yL_law cL_law 7 (some .boolean) (some (.int r)) h' 1390 [(0, .ref v0), (1, .ref v1), (2, .ref v2), (3, .ref v3), (4, .int v4)] [.int s0, .int s1, .ref s2, .int s3] h := by
  unfold fL_law_b1390 at hyp
  refine q_bind hyp (fun p1 e3 hyp => ?_)
  refine q_callV (as := [.int s1, .int s0]) (st := [.int s3]) kY_X10_mark kL_L_197 (okX10_mark (l := l) e3) (by decide) rfl (obX10_mark e3) (Nat.le_of_ble_eq_true rfl) dL_law_1390 ?_
  refine q_to (ls' := [(0, .ref v0), (1, .ref v1), (2, .ref v2), (3, .ref v3), (4, .int v4)]) (st' := [.int p1.1, .int s3]) rfl rfl ?_
  refine q_icmp_eq (tgt := 1423) dL_law_1393 (by decide) (fun c2 => ?_) (fun c2 => ?_)
  · have hyp := q_pos c2 hyp
    refine q_iinc (ls' := [(4, .int (v4 + 7)), (0, .ref v0), (1, .ref v1), (2, .ref v2), (3, .ref v3)]) 4 rfl rfl (by decide) rfl dL_law_1423 ?_
    refine q_goto (tgt := 23) dL_law_1426 (by decide) ?_
    exact q_sub [1, 2, 3, 4, 0] rfl (hK23 v0 v1 v2 v3 (v4 + 7) p1.2 hyp)
  · have hyp := q_neg c2 hyp
    refine q_iconst (x := 0) rfl dL_law_1396 ?_
    exact q_iretH rfl rfl dL_law_1397 hyp
def fL_law_b1366 (n : Nat) (K23 : Nat → Nat → Nat → Nat → Int32 → qH → Option (Int32 × qH)) (v0 : Nat) (v1 : Nat) (v2 : Nat) (v3 : Nat) (v4 : Int32) (s0 : Int32) (s1 : Int32) (s2 : Nat) (h : qH) : Option (Int32 × qH) :=
  (fX9_mark n s2 s1 s0 h).bind fun p1 =>
  (aI .int p1.2 v0 (v4 + 1)).bind fun x2 =>
  (aI .int p1.2 v0 (v4 + 2)).bind fun x4 =>
  if x4 = 0 then
  (fL_law_b1390 n K23 v0 v1 v2 v3 v4 0 x2 v2 p1.1 p1.2)
  else
  (fL_law_b1390 n K23 v0 v1 v2 v3 v4 1 x2 v2 p1.1 p1.2)
set_option maxHeartbeats 4000000 in
set_option maxRecDepth 100000 in
theorem okL_law_b1366 {l : Launch} {n : Nat} {K23 : Nat → Nat → Nat → Nat → Int32 → qH → Option (Int32 × qH)} {v0 : Nat} {v1 : Nat} {v2 : Nat} {v3 : Nat} {v4 : Int32} {s0 : Int32} {s1 : Int32} {s2 : Nat} {h : qH} {r : Int32} {h' : qH} (hfl : l.stackTraces = false) (hK23 : ∀ (v0 : Nat) (v1 : Nat) (v2 : Nat) (v3 : Nat) (v4 : Int32) (h : qH), K23 v0 v1 v2 v3 v4 h = some (r, h') → q_W l 55 yL_law cL_law 7 (some .boolean) (some (.int r)) h' 23 [(0, .ref v0), (1, .ref v1), (2, .ref v2), (3, .ref v3), (4, .int v4)] [] h) (hyp : fL_law_b1366 n K23 v0 v1 v2 v3 v4 s0 s1 s2 h = some (r, h')) : q_W l 55 yL_law cL_law 7 (some .boolean) (some (.int r)) h' 1366 [(0, .ref v0), (1, .ref v1), (2, .ref v2), (3, .ref v3), (4, .int v4)] [.int s0, .int s1, .ref s2] h := by
  unfold fL_law_b1366 at hyp
  refine q_bind hyp (fun p1 e7 hyp => ?_)
  refine q_callV (as := [.int s1, .int s0]) (st := []) kY_X9_mark kL_L_193 (okX9_mark (l := l) e7) (by decide) rfl (obX9_mark e7) (Nat.le_of_ble_eq_true rfl) dL_law_1366 ?_
  refine q_to (ls' := [(0, .ref v0), (1, .ref v1), (2, .ref v2), (3, .ref v3), (4, .int v4)]) (st' := [.int p1.1]) rfl rfl ?_
  refine q_aload_n 2 rfl dL_law_1369 ?_
  refine q_aload_n 0 rfl dL_law_1370 ?_
  refine q_iload 4 rfl dL_law_1371 ?_
  refine q_iconst (x := 1) rfl dL_law_1373 ?_
  refine q_iadd dL_law_1374 ?_
  refine q_bind hyp (fun x2 e3 hyp => ?_)
  refine q_iald dL_law_1375 e3 ?_
  refine q_aload_n 0 rfl dL_law_1376 ?_
  refine q_iload 4 rfl dL_law_1377 ?_
  refine q_iconst (x := 2) rfl dL_law_1379 ?_
  refine q_iadd dL_law_1380 ?_
  refine q_bind hyp (fun x4 e5 hyp => ?_)
  refine q_iald dL_law_1381 e5 ?_
  refine q_if_eq (tgt := 1389) dL_law_1382 (by decide) (fun c6 => ?_) (fun c6 => ?_)
  · have hyp := q_pos c6 hyp
    refine q_iconst (x := 0) rfl dL_law_1389 ?_
    exact q_sub [0, 1, 2, 3, 4] rfl (okL_law_b1390 hfl hK23 hyp)
  · have hyp := q_neg c6 hyp
    refine q_iconst (x := 1) rfl dL_law_1385 ?_
    refine q_goto (tgt := 1390) dL_law_1386 (by decide) ?_
    exact q_sub [0, 1, 2, 3, 4] rfl (okL_law_b1390 hfl hK23 hyp)
def fL_law_b1121 (n : Nat) (K23 : Nat → Nat → Nat → Nat → Int32 → qH → Option (Int32 × qH)) (v0 : Nat) (v1 : Nat) (v2 : Nat) (v3 : Nat) (v4 : Int32) (s0 : Int32) (s1 : Int32) (s2 : Int32) (s3 : Nat) (s4 : Int32) (h : qH) : Option (Int32 × qH) :=
  (fX10_see s3 s2 s1 s0 h).bind fun p1 =>
  if s4 = p1.1 then
  (K23 v0 v1 v2 v3 (v4 + 7) p1.2)
  else
  (some (0, p1.2))
set_option maxHeartbeats 4000000 in
set_option maxRecDepth 100000 in
theorem okL_law_b1121 {l : Launch} {n : Nat} {K23 : Nat → Nat → Nat → Nat → Int32 → qH → Option (Int32 × qH)} {v0 : Nat} {v1 : Nat} {v2 : Nat} {v3 : Nat} {v4 : Int32} {s0 : Int32} {s1 : Int32} {s2 : Int32} {s3 : Nat} {s4 : Int32} {h : qH} {r : Int32} {h' : qH} (hfl : l.stackTraces = false) (hK23 : ∀ (v0 : Nat) (v1 : Nat) (v2 : Nat) (v3 : Nat) (v4 : Int32) (h : qH), K23 v0 v1 v2 v3 v4 h = some (r, h') → q_W l 55 yL_law cL_law 7 (some .boolean) (some (.int r)) h' 23 [(0, .ref v0), (1, .ref v1), (2, .ref v2), (3, .ref v3), (4, .int v4)] [] h) (hyp : fL_law_b1121 n K23 v0 v1 v2 v3 v4 s0 s1 s2 s3 s4 h = some (r, h')) : q_W l 55 yL_law cL_law 7 (some .boolean) (some (.int r)) h' 1121 [(0, .ref v0), (1, .ref v1), (2, .ref v2), (3, .ref v3), (4, .int v4)] [.int s0, .int s1, .int s2, .ref s3, .int s4] h := by
  unfold fL_law_b1121 at hyp
  refine q_bind hyp (fun p1 e3 hyp => ?_)
  refine q_callV (as := [.int s2, .int s1, .int s0]) (st := [.int s4]) kY_X10_see kL_L_166 (okX10_see (l := l) e3) (by decide) rfl (obX10_see e3) (Nat.le_of_ble_eq_true rfl) dL_law_1121 ?_
  refine q_to (ls' := [(0, .ref v0), (1, .ref v1), (2, .ref v2), (3, .ref v3), (4, .int v4)]) (st' := [.int p1.1, .int s4]) rfl rfl ?_
  refine q_icmp_eq (tgt := 1423) dL_law_1124 (by decide) (fun c2 => ?_) (fun c2 => ?_)
  · have hyp := q_pos c2 hyp
    refine q_iinc (ls' := [(4, .int (v4 + 7)), (0, .ref v0), (1, .ref v1), (2, .ref v2), (3, .ref v3)]) 4 rfl rfl (by decide) rfl dL_law_1423 ?_
    refine q_goto (tgt := 23) dL_law_1426 (by decide) ?_
    exact q_sub [1, 2, 3, 4, 0] rfl (hK23 v0 v1 v2 v3 (v4 + 7) p1.2 hyp)
  · have hyp := q_neg c2 hyp
    refine q_iconst (x := 0) rfl dL_law_1127 ?_
    exact q_iretH rfl rfl dL_law_1128 hyp
def fL_law_b1091 (n : Nat) (K23 : Nat → Nat → Nat → Nat → Int32 → qH → Option (Int32 × qH)) (v0 : Nat) (v1 : Nat) (v2 : Nat) (v3 : Nat) (v4 : Int32) (s0 : Int32) (s1 : Int32) (s2 : Int32) (s3 : Nat) (h : qH) : Option (Int32 × qH) :=
  (fX9_see s3 s2 s1 s0 h).bind fun p1 =>
  (aI .int p1.2 v0 (v4 + 1)).bind fun x2 =>
  (aI .int p1.2 v0 (v4 + 2)).bind fun x4 =>
  (aI .int p1.2 v0 (v4 + 3)).bind fun x6 =>
  if x6 = 0 then
  (fL_law_b1121 n K23 v0 v1 v2 v3 v4 0 x4 x2 v2 p1.1 p1.2)
  else
  (fL_law_b1121 n K23 v0 v1 v2 v3 v4 1 x4 x2 v2 p1.1 p1.2)
set_option maxHeartbeats 4000000 in
set_option maxRecDepth 100000 in
theorem okL_law_b1091 {l : Launch} {n : Nat} {K23 : Nat → Nat → Nat → Nat → Int32 → qH → Option (Int32 × qH)} {v0 : Nat} {v1 : Nat} {v2 : Nat} {v3 : Nat} {v4 : Int32} {s0 : Int32} {s1 : Int32} {s2 : Int32} {s3 : Nat} {h : qH} {r : Int32} {h' : qH} (hfl : l.stackTraces = false) (hK23 : ∀ (v0 : Nat) (v1 : Nat) (v2 : Nat) (v3 : Nat) (v4 : Int32) (h : qH), K23 v0 v1 v2 v3 v4 h = some (r, h') → q_W l 55 yL_law cL_law 7 (some .boolean) (some (.int r)) h' 23 [(0, .ref v0), (1, .ref v1), (2, .ref v2), (3, .ref v3), (4, .int v4)] [] h) (hyp : fL_law_b1091 n K23 v0 v1 v2 v3 v4 s0 s1 s2 s3 h = some (r, h')) : q_W l 55 yL_law cL_law 7 (some .boolean) (some (.int r)) h' 1091 [(0, .ref v0), (1, .ref v1), (2, .ref v2), (3, .ref v3), (4, .int v4)] [.int s0, .int s1, .int s2, .ref s3] h := by
  unfold fL_law_b1091 at hyp
  refine q_bind hyp (fun p1 e9 hyp => ?_)
  refine q_callV (as := [.int s2, .int s1, .int s0]) (st := []) kY_X9_see kL_L_162 (okX9_see (l := l) e9) (by decide) rfl (obX9_see e9) (Nat.le_of_ble_eq_true rfl) dL_law_1091 ?_
  refine q_to (ls' := [(0, .ref v0), (1, .ref v1), (2, .ref v2), (3, .ref v3), (4, .int v4)]) (st' := [.int p1.1]) rfl rfl ?_
  refine q_aload_n 2 rfl dL_law_1094 ?_
  refine q_aload_n 0 rfl dL_law_1095 ?_
  refine q_iload 4 rfl dL_law_1096 ?_
  refine q_iconst (x := 1) rfl dL_law_1098 ?_
  refine q_iadd dL_law_1099 ?_
  refine q_bind hyp (fun x2 e3 hyp => ?_)
  refine q_iald dL_law_1100 e3 ?_
  refine q_aload_n 0 rfl dL_law_1101 ?_
  refine q_iload 4 rfl dL_law_1102 ?_
  refine q_iconst (x := 2) rfl dL_law_1104 ?_
  refine q_iadd dL_law_1105 ?_
  refine q_bind hyp (fun x4 e5 hyp => ?_)
  refine q_iald dL_law_1106 e5 ?_
  refine q_aload_n 0 rfl dL_law_1107 ?_
  refine q_iload 4 rfl dL_law_1108 ?_
  refine q_iconst (x := 3) rfl dL_law_1110 ?_
  refine q_iadd dL_law_1111 ?_
  refine q_bind hyp (fun x6 e7 hyp => ?_)
  refine q_iald dL_law_1112 e7 ?_
  refine q_if_eq (tgt := 1120) dL_law_1113 (by decide) (fun c8 => ?_) (fun c8 => ?_)
  · have hyp := q_pos c8 hyp
    refine q_iconst (x := 0) rfl dL_law_1120 ?_
    exact q_sub [0, 1, 2, 3, 4] rfl (okL_law_b1121 hfl hK23 hyp)
  · have hyp := q_neg c8 hyp
    refine q_iconst (x := 1) rfl dL_law_1116 ?_
    refine q_goto (tgt := 1121) dL_law_1117 (by decide) ?_
    exact q_sub [0, 1, 2, 3, 4] rfl (okL_law_b1121 hfl hK23 hyp)
def fL_law_b23 (n : Nat) : Nat → Nat → Nat → Nat → Nat → Int32 → qH → Option (Int32 × qH)
  | 0, _, _, _, _, _, _ => none
  | w + 1, v0, v1, v2, v3, v4, h =>
    (aN h v0).bind fun x1 =>
    if (x1 - 7) < v4 then
    (some (1, h))
    else
    ((aI .int h v0 v4).bind fun x4 =>
    if (x4 &&& 63) = 0 then
    ((aI .int h v0 (v4 + 1)).bind fun x7 =>
    (aI .int h v0 (v4 + 2)).bind fun x9 =>
    (aI .int h v0 (v4 + 3)).bind fun x11 =>
    (aI .int h v0 (v4 + 4)).bind fun x13 =>
    (aI .int h v0 (v4 + 5)).bind fun x15 =>
    (aI .int h v0 (v4 + 6)).bind fun x17 =>
    (fX9_feed n v1 ((x7.toInt64 <<< ((32 : Int32).toInt64 &&& 63)) ||| (x9.toInt64 &&& 4294967295)) ((x11.toInt64 <<< ((32 : Int32).toInt64 &&& 63)) ||| (x13.toInt64 &&& 4294967295)) ((x15.toInt64 <<< ((32 : Int32).toInt64 &&& 63)) ||| (x17.toInt64 &&& 4294967295)) h).bind fun p19 =>
    (aI .int p19.2 v0 (v4 + 1)).bind fun x20 =>
    (aI .int p19.2 v0 (v4 + 2)).bind fun x22 =>
    (aI .int p19.2 v0 (v4 + 3)).bind fun x24 =>
    (aI .int p19.2 v0 (v4 + 4)).bind fun x26 =>
    (aI .int p19.2 v0 (v4 + 5)).bind fun x28 =>
    (aI .int p19.2 v0 (v4 + 6)).bind fun x30 =>
    (fX10_feed n v2 ((x20.toInt64 <<< ((32 : Int32).toInt64 &&& 63)) ||| (x22.toInt64 &&& 4294967295)) ((x24.toInt64 <<< ((32 : Int32).toInt64 &&& 63)) ||| (x26.toInt64 &&& 4294967295)) ((x28.toInt64 <<< ((32 : Int32).toInt64 &&& 63)) ||| (x30.toInt64 &&& 4294967295)) p19.2).bind fun p32 =>
    if p19.1 = p32.1 then
    (fL_law_b23 n w v0 v1 v2 v3 (v4 + 7) p32.2)
    else
    (some (0, p32.2)))
    else
    (if (x4 &&& 63) = 1 then
    ((fX9_past n v1 h).bind fun p37 =>
    (fX10_past n v2 p37.2).bind fun p38 =>
    if p37.1 = p38.1 then
    (fL_law_b23 n w v0 v1 v2 v3 (v4 + 7) p38.2)
    else
    (some (0, p38.2)))
    else
    (if (x4 &&& 63) = 2 then
    ((fX9_round n v1 h).bind fun p43 =>
    (fX10_round n v2 p43.2).bind fun p44 =>
    if p43.1 = p44.1 then
    (fL_law_b23 n w v0 v1 v2 v3 (v4 + 7) p44.2)
    else
    (some (0, p44.2)))
    else
    (if (x4 &&& 63) = 3 then
    ((aI .int h v0 (v4 + 1)).bind fun x49 =>
    (aI .int h v0 (v4 + 2)).bind fun x51 =>
    (fX9_matter n v1 x49 x51 h).bind fun p53 =>
    (aI .int p53.2 v0 (v4 + 1)).bind fun x54 =>
    (aI .int p53.2 v0 (v4 + 2)).bind fun x56 =>
    (fX10_matter n v2 x54 x56 p53.2).bind fun p58 =>
    if p53.1 = p58.1 then
    (fL_law_b23 n w v0 v1 v2 v3 (v4 + 7) p58.2)
    else
    (some (0, p58.2)))
    else
    (if (x4 &&& 63) = 4 then
    ((aI .int h v0 (v4 + 1)).bind fun x63 =>
    (fX9_spread n v1 x63 h).bind fun p65 =>
    (aI .int p65.2 v0 (v4 + 1)).bind fun x66 =>
    (fX10_spread n v2 x66 p65.2).bind fun p68 =>
    if p65.1 = p68.1 then
    (fL_law_b23 n w v0 v1 v2 v3 (v4 + 7) p68.2)
    else
    (some (0, p68.2)))
    else
    (if (x4 &&& 63) = 5 then
    ((aI .int h v0 (v4 + 1)).bind fun x73 =>
    (fX9_eat n v1 x73 h).bind fun p75 =>
    (aI .int p75.2 v0 (v4 + 1)).bind fun x76 =>
    (fX10_eat n v2 x76 p75.2).bind fun p78 =>
    if p75.1 = p78.1 then
    (fL_law_b23 n w v0 v1 v2 v3 (v4 + 7) p78.2)
    else
    (some (0, p78.2)))
    else
    (if (x4 &&& 63) = 6 then
    ((fX9_year n v1 h).bind fun p83 =>
    (fX10_year n v2 p83.2).bind fun p84 =>
    if p83.1 = p84.1 then
    (fL_law_b23 n w v0 v1 v2 v3 (v4 + 7) p84.2)
    else
    (some (0, p84.2)))
    else
    (if (x4 &&& 63) = 7 then
    ((fX9_undo n v1 h).bind fun p89 =>
    (fX10_undo n v2 p89.2).bind fun p90 =>
    if p89.1 = p90.1 then
    (fL_law_b23 n w v0 v1 v2 v3 (v4 + 7) p90.2)
    else
    (some (0, p90.2)))
    else
    (if (x4 &&& 63) = 8 then
    ((aI .int h v0 (v4 + 1)).bind fun x95 =>
    (fX9_judged n v1 x95 h).bind fun p97 =>
    (aI .int p97.2 v0 (v4 + 1)).bind fun x98 =>
    (fX10_judged n v2 x98 p97.2).bind fun p100 =>
    if p97.1 = p100.1 then
    (fL_law_b23 n w v0 v1 v2 v3 (v4 + 7) p100.2)
    else
    (some (0, p100.2)))
    else
    (if (x4 &&& 63) = 9 then
    ((fX9_meant n v1 h).bind fun p105 =>
    (fX10_meant n v2 p105.2).bind fun p106 =>
    if p105.1 = p106.1 then
    (fL_law_b23 n w v0 v1 v2 v3 (v4 + 7) p106.2)
    else
    (some (0, p106.2)))
    else
    (if (x4 &&& 63) = 10 then
    ((fX9_right n v1 h).bind fun p111 =>
    (fX10_right n v2 p111.2).bind fun p112 =>
    if p111.1 = p112.1 then
    (fL_law_b23 n w v0 v1 v2 v3 (v4 + 7) p112.2)
    else
    (some (0, p112.2)))
    else
    (if (x4 &&& 63) = 11 then
    ((aI .int h v0 (v4 + 1)).bind fun x117 =>
    (fX9_wants n v1 x117 h).bind fun p119 =>
    (aI .int p119.2 v0 (v4 + 1)).bind fun x120 =>
    (fX10_wants n v2 x120 p119.2).bind fun p122 =>
    if p119.1 = p122.1 then
    (fL_law_b23 n w v0 v1 v2 v3 (v4 + 7) p122.2)
    else
    (some (0, p122.2)))
    else
    (if (x4 &&& 63) = 12 then
    ((aI .int h v0 (v4 + 1)).bind fun x127 =>
    (fX9_cost n v1 x127 h).bind fun p129 =>
    (aI .int p129.2 v0 (v4 + 1)).bind fun x130 =>
    (fX10_cost n v2 x130 p129.2).bind fun p132 =>
    if p129.1 = p132.1 then
    (fL_law_b23 n w v0 v1 v2 v3 (v4 + 7) p132.2)
    else
    (some (0, p132.2)))
    else
    (if (x4 &&& 63) = 13 then
    ((aI .int h v0 (v4 + 1)).bind fun x137 =>
    (aI .int h v0 (v4 + 2)).bind fun x139 =>
    (fX9_cheap n v1 x137 x139 h).bind fun p141 =>
    (aI .int p141.2 v0 (v4 + 1)).bind fun x142 =>
    (aI .int p141.2 v0 (v4 + 2)).bind fun x144 =>
    (fX10_cheap n v2 x142 x144 p141.2).bind fun p146 =>
    if p141.1 = p146.1 then
    (fL_law_b23 n w v0 v1 v2 v3 (v4 + 7) p146.2)
    else
    (some (0, p146.2)))
    else
    (if (x4 &&& 63) = 14 then
    ((aI .int h v0 (v4 + 1)).bind fun x151 =>
    (aI .int h v0 (v4 + 2)).bind fun x153 =>
    (fX9_most n v1 x151 x153 h).bind fun p155 =>
    (aI .int p155.2 v0 (v4 + 1)).bind fun x156 =>
    (aI .int p155.2 v0 (v4 + 2)).bind fun x158 =>
    (fX10_most n v2 x156 x158 p155.2).bind fun p160 =>
    if p155.1 = p160.1 then
    (fL_law_b23 n w v0 v1 v2 v3 (v4 + 7) p160.2)
    else
    (some (0, p160.2)))
    else
    (if (x4 &&& 63) = 15 then
    ((fX9_all n v1 h).bind fun p165 =>
    (fX10_all n v2 p165.2).bind fun p166 =>
    if p165.1 = p166.1 then
    (fL_law_b23 n w v0 v1 v2 v3 (v4 + 7) p166.2)
    else
    (some (0, p166.2)))
    else
    (if (x4 &&& 63) = 16 then
    ((fX9_lacks n v1 h).bind fun p171 =>
    (fX10_lacks n v2 p171.2).bind fun p172 =>
    if p171.1 = p172.1 then
    (fL_law_b23 n w v0 v1 v2 v3 (v4 + 7) p172.2)
    else
    (some (0, p172.2)))
    else
    (if (x4 &&& 63) = 17 then
    ((fX9_easiest n v1 h).bind fun p177 =>
    (fX10_easiest n v2 p177.2).bind fun p178 =>
    if p177.1 = p178.1 then
    (fL_law_b23 n w v0 v1 v2 v3 (v4 + 7) p178.2)
    else
    (some (0, p178.2)))
    else
    (if (x4 &&& 63) = 18 then
    ((aI .int h v0 (v4 + 1)).bind fun x183 =>
    (aI .int h v0 (v4 + 2)).bind fun x185 =>
    (fX9_later n v1 x183 x185 h).bind fun p187 =>
    (aI .int p187.2 v0 (v4 + 1)).bind fun x188 =>
    (aI .int p187.2 v0 (v4 + 2)).bind fun x190 =>
    (fX10_later n v2 x188 x190 p187.2).bind fun p192 =>
    if p187.1 = p192.1 then
    (fL_law_b23 n w v0 v1 v2 v3 (v4 + 7) p192.2)
    else
    (some (0, p192.2)))
    else
    (if (x4 &&& 63) = 19 then
    ((aI .int h v0 (v4 + 1)).bind fun x197 =>
    (fX9_again n v1 x197 h).bind fun p199 =>
    (aI .int p199.2 v0 (v4 + 1)).bind fun x200 =>
    (fX10_again n v2 x200 p199.2).bind fun p202 =>
    if p199.1 = p202.1 then
    (fL_law_b23 n w v0 v1 v2 v3 (v4 + 7) p202.2)
    else
    (some (0, p202.2)))
    else
    (if (x4 &&& 63) = 20 then
    ((aI .int h v0 (v4 + 1)).bind fun x207 =>
    (fX9_heals n v1 x207 h).bind fun p209 =>
    (aI .int p209.2 v0 (v4 + 1)).bind fun x210 =>
    (fX10_heals n v2 x210 p209.2).bind fun p212 =>
    if p209.1 = p212.1 then
    (fL_law_b23 n w v0 v1 v2 v3 (v4 + 7) p212.2)
    else
    (some (0, p212.2)))
    else
    (if (x4 &&& 63) = 21 then
    ((aI .int h v0 (v4 + 1)).bind fun x217 =>
    (fX9_fills n v1 x217 h).bind fun p219 =>
    (aI .int p219.2 v0 (v4 + 1)).bind fun x220 =>
    (fX10_fills n v2 x220 p219.2).bind fun p222 =>
    if p219.1 = p222.1 then
    (fL_law_b23 n w v0 v1 v2 v3 (v4 + 7) p222.2)
    else
    (some (0, p222.2)))
    else
    (if (x4 &&& 63) = 22 then
    ((aI .int h v0 (v4 + 1)).bind fun x227 =>
    (fX9_dinners n v1 x227 h).bind fun p229 =>
    (aI .int p229.2 v0 (v4 + 1)).bind fun x230 =>
    (fX10_dinners n v2 x230 p229.2).bind fun p232 =>
    if p229.1 = p232.1 then
    (fL_law_b23 n w v0 v1 v2 v3 (v4 + 7) p232.2)
    else
    (some (0, p232.2)))
    else
    (if (x4 &&& 63) = 23 then
    ((aI .int h v0 (v4 + 1)).bind fun x237 =>
    (fX9_causes n v1 x237 h).bind fun p239 =>
    (aI .int p239.2 v0 (v4 + 1)).bind fun x240 =>
    (fX10_causes n v2 x240 p239.2).bind fun p242 =>
    if p239.1 = p242.1 then
    (fL_law_b23 n w v0 v1 v2 v3 (v4 + 7) p242.2)
    else
    (some (0, p242.2)))
    else
    (if (x4 &&& 63) = 24 then
    ((aI .int h v0 (v4 + 1)).bind fun x247 =>
    (fX9_fruits n v1 x247 h).bind fun p249 =>
    (aI .int p249.2 v0 (v4 + 1)).bind fun x250 =>
    (fX10_fruits v2 x250 p249.2).bind fun p252 =>
    if p249.1 = p252.1 then
    (fL_law_b23 n w v0 v1 v2 v3 (v4 + 7) p252.2)
    else
    (some (0, p252.2)))
    else
    (if (x4 &&& 63) = 25 then
    ((aI .int h v0 (v4 + 1)).bind fun x257 =>
    (aI .int h v0 (v4 + 2)).bind fun x259 =>
    (fX9_ways n v1 x257 x259 h).bind fun p261 =>
    (aI .int p261.2 v0 (v4 + 1)).bind fun x262 =>
    (aI .int p261.2 v0 (v4 + 2)).bind fun x264 =>
    (fX10_ways n v2 x262 x264 p261.2).bind fun p266 =>
    if p261.1 = p266.1 then
    (fL_law_b23 n w v0 v1 v2 v3 (v4 + 7) p266.2)
    else
    (some (0, p266.2)))
    else
    (if (x4 &&& 63) = 26 then
    ((fX9_story n v1 h).bind fun p271 =>
    (fX10_story n v2 p271.2).bind fun p272 =>
    if p271.1 = p272.1 then
    (fL_law_b23 n w v0 v1 v2 v3 (v4 + 7) p272.2)
    else
    (some (0, p272.2)))
    else
    (if (x4 &&& 63) = 27 then
    ((fX9_roots n v1 h).bind fun p277 =>
    (fX10_roots n v2 p277.2).bind fun p278 =>
    if p277.1 = p278.1 then
    (fL_law_b23 n w v0 v1 v2 v3 (v4 + 7) p278.2)
    else
    (some (0, p278.2)))
    else
    (if (x4 &&& 63) = 28 then
    ((aI .int h v0 (v4 + 1)).bind fun x283 =>
    (fX9_elders n v1 x283 h).bind fun p285 =>
    (aI .int p285.2 v0 (v4 + 1)).bind fun x286 =>
    (fX10_elders n v2 x286 p285.2).bind fun p288 =>
    if p285.1 = p288.1 then
    (fL_law_b23 n w v0 v1 v2 v3 (v4 + 7) p288.2)
    else
    (some (0, p288.2)))
    else
    (if (x4 &&& 63) = 29 then
    ((fX9_redeems n v1 h).bind fun p293 =>
    (fX10_redeems n v2 p293.2).bind fun p294 =>
    if p293.1 = p294.1 then
    (fL_law_b23 n w v0 v1 v2 v3 (v4 + 7) p294.2)
    else
    (some (0, p294.2)))
    else
    (if (x4 &&& 63) = 30 then
    ((fX9_gap n v1 h).bind fun p299 =>
    (fX10_gap n v2 p299.2).bind fun p300 =>
    if p299.1 = p300.1 then
    (fL_law_b23 n w v0 v1 v2 v3 (v4 + 7) p300.2)
    else
    (some (0, p300.2)))
    else
    (if (x4 &&& 63) = 31 then
    ((fX9_bare n v1 h).bind fun p305 =>
    (fX10_bare n v2 p305.2).bind fun p306 =>
    if p305.1 = p306.1 then
    (fL_law_b23 n w v0 v1 v2 v3 (v4 + 7) p306.2)
    else
    (some (0, p306.2)))
    else
    (if (x4 &&& 63) = 32 then
    ((fX9_sourest n v1 h).bind fun p311 =>
    (fX10_sourest n v2 p311.2).bind fun p312 =>
    if p311.1 = p312.1 then
    (fL_law_b23 n w v0 v1 v2 v3 (v4 + 7) p312.2)
    else
    (some (0, p312.2)))
    else
    (if (x4 &&& 63) = 33 then
    ((fX9_lost n v1 h).bind fun p317 =>
    (fX10_lost n v2 p317.2).bind fun p318 =>
    if p317.1 = p318.1 then
    (fL_law_b23 n w v0 v1 v2 v3 (v4 + 7) p318.2)
    else
    (some (0, p318.2)))
    else
    (if (x4 &&& 63) = 34 then
    ((aI .int h v0 (v4 + 1)).bind fun x323 =>
    (aI .int h v0 (v4 + 2)).bind fun x325 =>
    (aI .int h v0 (v4 + 3)).bind fun x327 =>
    if x327 = 0 then
    (fL_law_b1091 n (fL_law_b23 n w) v0 v1 v2 v3 v4 0 x325 x323 v1 h)
    else
    (fL_law_b1091 n (fL_law_b23 n w) v0 v1 v2 v3 v4 1 x325 x323 v1 h))
    else
    (if (x4 &&& 63) = 35 then
    ((fX9_who n v1 h).bind fun p331 =>
    (fX10_who n v2 p331.2).bind fun p332 =>
    if p331.1 = p332.1 then
    (fL_law_b23 n w v0 v1 v2 v3 (v4 + 7) p332.2)
    else
    (some (0, p332.2)))
    else
    (if (x4 &&& 63) = 36 then
    ((fX9_taste n v1 h).bind fun p337 =>
    (fX10_taste n v2 p337.2).bind fun p338 =>
    if p337.1 = p338.1 then
    (fL_law_b23 n w v0 v1 v2 v3 (v4 + 7) p338.2)
    else
    (some (0, p338.2)))
    else
    (if (x4 &&& 63) = 37 then
    ((aI .int h v0 (v4 + 1)).bind fun x343 =>
    (aI .int h v0 (v4 + 2)).bind fun x345 =>
    (aI .int h v0 (v4 + 3)).bind fun x347 =>
    (fX9_chance n v1 x343 x345 x347 h).bind fun p349 =>
    (aI .int p349.2 v0 (v4 + 1)).bind fun x350 =>
    (aI .int p349.2 v0 (v4 + 2)).bind fun x352 =>
    (aI .int p349.2 v0 (v4 + 3)).bind fun x354 =>
    (fX10_chance n v2 x350 x352 x354 p349.2).bind fun p356 =>
    if p349.1 = p356.1 then
    (fL_law_b23 n w v0 v1 v2 v3 (v4 + 7) p356.2)
    else
    (some (0, p356.2)))
    else
    (if (x4 &&& 63) = 38 then
    ((aI .int h v0 (v4 + 1)).bind fun x361 =>
    (aI .int h v0 (v4 + 2)).bind fun x363 =>
    (aI .int h v0 (v4 + 3)).bind fun x365 =>
    (aI .int h v0 (v4 + 4)).bind fun x367 =>
    (fL_rests n v1 x361 x363 x365 x367 v3 h).bind fun p369 =>
    (aI .int p369.2 v0 (v4 + 1)).bind fun x370 =>
    (aI .int p369.2 v0 (v4 + 2)).bind fun x372 =>
    (aI .int p369.2 v0 (v4 + 3)).bind fun x374 =>
    (aI .int p369.2 v0 (v4 + 4)).bind fun x376 =>
    (fX10_rests n v2 x370 x372 x374 x376 p369.2).bind fun p378 =>
    (fX10_thrown v2 p378.2).bind fun p379 =>
    if p379.1 = p369.1 then
    (if p369.1 = 0 then
    ((aL p379.2 v3 0).bind fun x382 =>
    if (lg_cmp x382 p378.1.toInt64) = 0 then
    (fL_law_b23 n w v0 v1 v2 v3 (v4 + 7) p379.2)
    else
    (some (0, p379.2)))
    else
    (fL_law_b23 n w v0 v1 v2 v3 (v4 + 7) p379.2))
    else
    (some (0, p379.2)))
    else
    (if (x4 &&& 63) = 39 then
    ((aI .int h v0 (v4 + 1)).bind fun x389 =>
    (aI .int h v0 (v4 + 2)).bind fun x391 =>
    (aI .int h v0 (v4 + 3)).bind fun x393 =>
    (fX9_years n v1 x389 x391 x393 h).bind fun p395 =>
    (aI .int p395.2 v0 (v4 + 1)).bind fun x396 =>
    (aI .int p395.2 v0 (v4 + 2)).bind fun x398 =>
    (aI .int p395.2 v0 (v4 + 3)).bind fun x400 =>
    (fX10_years n v2 x396 x398 x400 p395.2).bind fun p402 =>
    if p395.1 = p402.1 then
    (fL_law_b23 n w v0 v1 v2 v3 (v4 + 7) p402.2)
    else
    (some (0, p402.2)))
    else
    (if (x4 &&& 63) = 40 then
    ((aI .int h v0 (v4 + 1)).bind fun x407 =>
    (aI .int h v0 (v4 + 2)).bind fun x409 =>
    if x409 = 0 then
    (fL_law_b1366 n (fL_law_b23 n w) v0 v1 v2 v3 v4 0 x407 v1 h)
    else
    (fL_law_b1366 n (fL_law_b23 n w) v0 v1 v2 v3 v4 1 x407 v1 h))
    else
    (if (x4 &&& 63) = 41 then
    ((aI .int h v0 (v4 + 1)).bind fun x413 =>
    (fX9_count n v1 x413 h).bind fun p415 =>
    (aI .int p415.2 v0 (v4 + 1)).bind fun x416 =>
    (fX10_count n v2 x416 p415.2).bind fun p418 =>
    if p415.1 = p418.1 then
    (fL_law_b23 n w v0 v1 v2 v3 (v4 + 7) p418.2)
    else
    (some (0, p418.2)))
    else
    (fL_law_b23 n w v0 v1 v2 v3 (v4 + 7) h)))))))))))))))))))))))))))))))))))))))))))
set_option maxHeartbeats 4000000 in
set_option maxRecDepth 100000 in
theorem okL_law_b23 {l : Launch} {n : Nat} {r : Int32} {h' : qH} (hfl : l.stackTraces = false) : ∀ (w : Nat) (v0 : Nat) (v1 : Nat) (v2 : Nat) (v3 : Nat) (v4 : Int32) (h : qH), fL_law_b23 n w v0 v1 v2 v3 v4 h = some (r, h') → q_W l 55 yL_law cL_law 7 (some .boolean) (some (.int r)) h' 23 [(0, .ref v0), (1, .ref v1), (2, .ref v2), (3, .ref v3), (4, .int v4)] [] h := by
  intro w
  induction w with
  | zero => intro v0 v1 v2 v3 v4 h hyp; cases hyp
  | succ w ih =>
    intro v0 v1 v2 v3 v4 h hyp
    unfold fL_law_b23 at hyp
    refine q_iload 4 rfl dL_law_23 ?_
    refine q_aload_n 0 rfl dL_law_25 ?_
    refine q_bind hyp (fun x1 e2 hyp => ?_)
    refine q_alen dL_law_26 e2 ?_
    refine q_bipush (x := 7) (by decide) dL_law_27 ?_
    refine q_isub dL_law_29 ?_
    refine q_icmp_gt (tgt := 1429) dL_law_30 (by decide) (fun c3 => ?_) (fun c3 => ?_)
    · have hyp := q_pos c3 hyp
      refine q_iconst (x := 1) rfl dL_law_1429 ?_
      exact q_iretH rfl rfl dL_law_1430 hyp
    · have hyp := q_neg c3 hyp
      refine q_aload_n 0 rfl dL_law_33 ?_
      refine q_iload 4 rfl dL_law_34 ?_
      refine q_bind hyp (fun x4 e5 hyp => ?_)
      refine q_iald dL_law_36 e5 ?_
      refine q_bipush (x := 63) (by decide) dL_law_37 ?_
      refine q_iand dL_law_39 ?_
      refine q_ite hyp (fun c6 hyp => ?_) (fun c6 hyp => ?_)
      · refine q_tableIn (off := 184) (tgt := 224) dL_law_40 (by rw [c6]; decide) (by rw [c6]; decide) (by rw [c6]; rfl) (by decide) ?_
        refine q_aload_n 1 rfl dL_law_224 ?_
        refine q_aload_n 0 rfl dL_law_225 ?_
        refine q_iload 4 rfl dL_law_226 ?_
        refine q_iconst (x := 1) rfl dL_law_228 ?_
        refine q_iadd dL_law_229 ?_
        refine q_bind hyp (fun x7 e8 hyp => ?_)
        refine q_iald dL_law_230 e8 ?_
        refine q_i2l dL_law_231 ?_
        refine q_bipush (x := 32) (by decide) dL_law_232 ?_
        refine q_lshl dL_law_234 ?_
        refine q_aload_n 0 rfl dL_law_235 ?_
        refine q_iload 4 rfl dL_law_236 ?_
        refine q_iconst (x := 2) rfl dL_law_238 ?_
        refine q_iadd dL_law_239 ?_
        refine q_bind hyp (fun x9 e10 hyp => ?_)
        refine q_iald dL_law_240 e10 ?_
        refine q_i2l dL_law_241 ?_
        refine q_ldc2 kK_L_19 dL_law_242 ?_
        refine q_land dL_law_245 ?_
        refine q_lor dL_law_246 ?_
        refine q_aload_n 0 rfl dL_law_247 ?_
        refine q_iload 4 rfl dL_law_248 ?_
        refine q_iconst (x := 3) rfl dL_law_250 ?_
        refine q_iadd dL_law_251 ?_
        refine q_bind hyp (fun x11 e12 hyp => ?_)
        refine q_iald dL_law_252 e12 ?_
        refine q_i2l dL_law_253 ?_
        refine q_bipush (x := 32) (by decide) dL_law_254 ?_
        refine q_lshl dL_law_256 ?_
        refine q_aload_n 0 rfl dL_law_257 ?_
        refine q_iload 4 rfl dL_law_258 ?_
        refine q_iconst (x := 4) rfl dL_law_260 ?_
        refine q_iadd dL_law_261 ?_
        refine q_bind hyp (fun x13 e14 hyp => ?_)
        refine q_iald dL_law_262 e14 ?_
        refine q_i2l dL_law_263 ?_
        refine q_ldc2 kK_L_19 dL_law_264 ?_
        refine q_land dL_law_267 ?_
        refine q_lor dL_law_268 ?_
        refine q_aload_n 0 rfl dL_law_269 ?_
        refine q_iload 4 rfl dL_law_270 ?_
        refine q_iconst (x := 5) rfl dL_law_272 ?_
        refine q_iadd dL_law_273 ?_
        refine q_bind hyp (fun x15 e16 hyp => ?_)
        refine q_iald dL_law_274 e16 ?_
        refine q_i2l dL_law_275 ?_
        refine q_bipush (x := 32) (by decide) dL_law_276 ?_
        refine q_lshl dL_law_278 ?_
        refine q_aload_n 0 rfl dL_law_279 ?_
        refine q_iload 4 rfl dL_law_280 ?_
        refine q_bipush (x := 6) (by decide) dL_law_282 ?_
        refine q_iadd dL_law_284 ?_
        refine q_bind hyp (fun x17 e18 hyp => ?_)
        refine q_iald dL_law_285 e18 ?_
        refine q_i2l dL_law_286 ?_
        refine q_ldc2 kK_L_19 dL_law_287 ?_
        refine q_land dL_law_290 ?_
        refine q_lor dL_law_291 ?_
        refine q_bind hyp (fun p19 e35 hyp => ?_)
        refine q_callV (as := [.long ((x7.toInt64 <<< ((32 : Int32).toInt64 &&& 63)) ||| (x9.toInt64 &&& 4294967295)), .long ((x11.toInt64 <<< ((32 : Int32).toInt64 &&& 63)) ||| (x13.toInt64 &&& 4294967295)), .long ((x15.toInt64 <<< ((32 : Int32).toInt64 &&& 63)) ||| (x17.toInt64 &&& 4294967295))]) (st := []) kY_X9_feed kL_L_21 (okX9_feed (l := l) e35) (by decide) rfl (obX9_feed e35) (Nat.le_of_ble_eq_true rfl) dL_law_292 ?_
        refine q_to (ls' := [(0, .ref v0), (1, .ref v1), (2, .ref v2), (3, .ref v3), (4, .int v4)]) (st' := [.int p19.1]) rfl rfl ?_
        refine q_aload_n 2 rfl dL_law_295 ?_
        refine q_aload_n 0 rfl dL_law_296 ?_
        refine q_iload 4 rfl dL_law_297 ?_
        refine q_iconst (x := 1) rfl dL_law_299 ?_
        refine q_iadd dL_law_300 ?_
        refine q_bind hyp (fun x20 e21 hyp => ?_)
        refine q_iald dL_law_301 e21 ?_
        refine q_i2l dL_law_302 ?_
        refine q_bipush (x := 32) (by decide) dL_law_303 ?_
        refine q_lshl dL_law_305 ?_
        refine q_aload_n 0 rfl dL_law_306 ?_
        refine q_iload 4 rfl dL_law_307 ?_
        refine q_iconst (x := 2) rfl dL_law_309 ?_
        refine q_iadd dL_law_310 ?_
        refine q_bind hyp (fun x22 e23 hyp => ?_)
        refine q_iald dL_law_311 e23 ?_
        refine q_i2l dL_law_312 ?_
        refine q_ldc2 kK_L_19 dL_law_313 ?_
        refine q_land dL_law_316 ?_
        refine q_lor dL_law_317 ?_
        refine q_aload_n 0 rfl dL_law_318 ?_
        refine q_iload 4 rfl dL_law_319 ?_
        refine q_iconst (x := 3) rfl dL_law_321 ?_
        refine q_iadd dL_law_322 ?_
        refine q_bind hyp (fun x24 e25 hyp => ?_)
        refine q_iald dL_law_323 e25 ?_
        refine q_i2l dL_law_324 ?_
        refine q_bipush (x := 32) (by decide) dL_law_325 ?_
        refine q_lshl dL_law_327 ?_
        refine q_aload_n 0 rfl dL_law_328 ?_
        refine q_iload 4 rfl dL_law_329 ?_
        refine q_iconst (x := 4) rfl dL_law_331 ?_
        refine q_iadd dL_law_332 ?_
        refine q_bind hyp (fun x26 e27 hyp => ?_)
        refine q_iald dL_law_333 e27 ?_
        refine q_i2l dL_law_334 ?_
        refine q_ldc2 kK_L_19 dL_law_335 ?_
        refine q_land dL_law_338 ?_
        refine q_lor dL_law_339 ?_
        refine q_aload_n 0 rfl dL_law_340 ?_
        refine q_iload 4 rfl dL_law_341 ?_
        refine q_iconst (x := 5) rfl dL_law_343 ?_
        refine q_iadd dL_law_344 ?_
        refine q_bind hyp (fun x28 e29 hyp => ?_)
        refine q_iald dL_law_345 e29 ?_
        refine q_i2l dL_law_346 ?_
        refine q_bipush (x := 32) (by decide) dL_law_347 ?_
        refine q_lshl dL_law_349 ?_
        refine q_aload_n 0 rfl dL_law_350 ?_
        refine q_iload 4 rfl dL_law_351 ?_
        refine q_bipush (x := 6) (by decide) dL_law_353 ?_
        refine q_iadd dL_law_355 ?_
        refine q_bind hyp (fun x30 e31 hyp => ?_)
        refine q_iald dL_law_356 e31 ?_
        refine q_i2l dL_law_357 ?_
        refine q_ldc2 kK_L_19 dL_law_358 ?_
        refine q_land dL_law_361 ?_
        refine q_lor dL_law_362 ?_
        refine q_bind hyp (fun p32 e34 hyp => ?_)
        refine q_callV (as := [.long ((x20.toInt64 <<< ((32 : Int32).toInt64 &&& 63)) ||| (x22.toInt64 &&& 4294967295)), .long ((x24.toInt64 <<< ((32 : Int32).toInt64 &&& 63)) ||| (x26.toInt64 &&& 4294967295)), .long ((x28.toInt64 <<< ((32 : Int32).toInt64 &&& 63)) ||| (x30.toInt64 &&& 4294967295))]) (st := [.int p19.1]) kY_X10_feed kL_L_25 (okX10_feed (l := l) e34) (by decide) rfl (obX10_feed e34) (Nat.le_of_ble_eq_true rfl) dL_law_363 ?_
        refine q_to (ls' := [(0, .ref v0), (1, .ref v1), (2, .ref v2), (3, .ref v3), (4, .int v4)]) (st' := [.int p32.1, .int p19.1]) rfl rfl ?_
        refine q_icmp_eq (tgt := 1423) dL_law_366 (by decide) (fun c33 => ?_) (fun c33 => ?_)
        · have hyp := q_pos c33 hyp
          refine q_iinc (ls' := [(4, .int (v4 + 7)), (0, .ref v0), (1, .ref v1), (2, .ref v2), (3, .ref v3)]) 4 rfl rfl (by decide) rfl dL_law_1423 ?_
          refine q_goto (tgt := 23) dL_law_1426 (by decide) ?_
          exact q_sub [1, 2, 3, 4, 0] rfl (ih v0 v1 v2 v3 (v4 + 7) p32.2 hyp)
        · have hyp := q_neg c33 hyp
          refine q_iconst (x := 0) rfl dL_law_369 ?_
          exact q_iretH rfl rfl dL_law_370 hyp
      · refine q_ite hyp (fun c36 hyp => ?_) (fun c36 hyp => ?_)
        · refine q_tableIn (off := 331) (tgt := 371) dL_law_40 (by rw [c36]; decide) (by rw [c36]; decide) (by rw [c36]; rfl) (by decide) ?_
          refine q_aload_n 1 rfl dL_law_371 ?_
          refine q_bind hyp (fun p37 e41 hyp => ?_)
          refine q_callV (as := []) (st := []) kY_X9_past kL_L_26 (okX9_past (l := l) e41) (by decide) rfl (obX9_past e41) (Nat.le_of_ble_eq_true rfl) dL_law_372 ?_
          refine q_to (ls' := [(0, .ref v0), (1, .ref v1), (2, .ref v2), (3, .ref v3), (4, .int v4)]) (st' := [.int p37.1]) rfl rfl ?_
          refine q_aload_n 2 rfl dL_law_375 ?_
          refine q_bind hyp (fun p38 e40 hyp => ?_)
          refine q_callV (as := []) (st := [.int p37.1]) kY_X10_past kL_L_30 (okX10_past (l := l) e40) (by decide) rfl (obX10_past e40) (Nat.le_of_ble_eq_true rfl) dL_law_376 ?_
          refine q_to (ls' := [(0, .ref v0), (1, .ref v1), (2, .ref v2), (3, .ref v3), (4, .int v4)]) (st' := [.int p38.1, .int p37.1]) rfl rfl ?_
          refine q_icmp_eq (tgt := 1423) dL_law_379 (by decide) (fun c39 => ?_) (fun c39 => ?_)
          · have hyp := q_pos c39 hyp
            refine q_iinc (ls' := [(4, .int (v4 + 7)), (0, .ref v0), (1, .ref v1), (2, .ref v2), (3, .ref v3)]) 4 rfl rfl (by decide) rfl dL_law_1423 ?_
            refine q_goto (tgt := 23) dL_law_1426 (by decide) ?_
            exact q_sub [1, 2, 3, 4, 0] rfl (ih v0 v1 v2 v3 (v4 + 7) p38.2 hyp)
          · have hyp := q_neg c39 hyp
            refine q_iconst (x := 0) rfl dL_law_382 ?_
            exact q_iretH rfl rfl dL_law_383 hyp
        · refine q_ite hyp (fun c42 hyp => ?_) (fun c42 hyp => ?_)
          · refine q_tableIn (off := 344) (tgt := 384) dL_law_40 (by rw [c42]; decide) (by rw [c42]; decide) (by rw [c42]; rfl) (by decide) ?_
            refine q_aload_n 1 rfl dL_law_384 ?_
            refine q_bind hyp (fun p43 e47 hyp => ?_)
            refine q_callV (as := []) (st := []) kY_X9_round kL_L_31 (okX9_round (l := l) e47) (by decide) rfl (obX9_round e47) (Nat.le_of_ble_eq_true rfl) dL_law_385 ?_
            refine q_to (ls' := [(0, .ref v0), (1, .ref v1), (2, .ref v2), (3, .ref v3), (4, .int v4)]) (st' := [.int p43.1]) rfl rfl ?_
            refine q_aload_n 2 rfl dL_law_388 ?_
            refine q_bind hyp (fun p44 e46 hyp => ?_)
            refine q_callV (as := []) (st := [.int p43.1]) kY_X10_round kL_L_34 (okX10_round (l := l) e46) (by decide) rfl (obX10_round e46) (Nat.le_of_ble_eq_true rfl) dL_law_389 ?_
            refine q_to (ls' := [(0, .ref v0), (1, .ref v1), (2, .ref v2), (3, .ref v3), (4, .int v4)]) (st' := [.int p44.1, .int p43.1]) rfl rfl ?_
            refine q_icmp_eq (tgt := 1423) dL_law_392 (by decide) (fun c45 => ?_) (fun c45 => ?_)
            · have hyp := q_pos c45 hyp
              refine q_iinc (ls' := [(4, .int (v4 + 7)), (0, .ref v0), (1, .ref v1), (2, .ref v2), (3, .ref v3)]) 4 rfl rfl (by decide) rfl dL_law_1423 ?_
              refine q_goto (tgt := 23) dL_law_1426 (by decide) ?_
              exact q_sub [1, 2, 3, 4, 0] rfl (ih v0 v1 v2 v3 (v4 + 7) p44.2 hyp)
            · have hyp := q_neg c45 hyp
              refine q_iconst (x := 0) rfl dL_law_395 ?_
              exact q_iretH rfl rfl dL_law_396 hyp
          · refine q_ite hyp (fun c48 hyp => ?_) (fun c48 hyp => ?_)
            · refine q_tableIn (off := 357) (tgt := 397) dL_law_40 (by rw [c48]; decide) (by rw [c48]; decide) (by rw [c48]; rfl) (by decide) ?_
              refine q_aload_n 1 rfl dL_law_397 ?_
              refine q_aload_n 0 rfl dL_law_398 ?_
              refine q_iload 4 rfl dL_law_399 ?_
              refine q_iconst (x := 1) rfl dL_law_401 ?_
              refine q_iadd dL_law_402 ?_
              refine q_bind hyp (fun x49 e50 hyp => ?_)
              refine q_iald dL_law_403 e50 ?_
              refine q_aload_n 0 rfl dL_law_404 ?_
              refine q_iload 4 rfl dL_law_405 ?_
              refine q_iconst (x := 2) rfl dL_law_407 ?_
              refine q_iadd dL_law_408 ?_
              refine q_bind hyp (fun x51 e52 hyp => ?_)
              refine q_iald dL_law_409 e52 ?_
              refine q_bind hyp (fun p53 e61 hyp => ?_)
              refine q_callV (as := [.int x49, .int x51]) (st := []) kY_X9_matter kL_L_35 (okX9_matter (l := l) e61) (by decide) rfl (obX9_matter e61) (Nat.le_of_ble_eq_true rfl) dL_law_410 ?_
              refine q_to (ls' := [(0, .ref v0), (1, .ref v1), (2, .ref v2), (3, .ref v3), (4, .int v4)]) (st' := [.int p53.1]) rfl rfl ?_
              refine q_aload_n 2 rfl dL_law_413 ?_
              refine q_aload_n 0 rfl dL_law_414 ?_
              refine q_iload 4 rfl dL_law_415 ?_
              refine q_iconst (x := 1) rfl dL_law_417 ?_
              refine q_iadd dL_law_418 ?_
              refine q_bind hyp (fun x54 e55 hyp => ?_)
              refine q_iald dL_law_419 e55 ?_
              refine q_aload_n 0 rfl dL_law_420 ?_
              refine q_iload 4 rfl dL_law_421 ?_
              refine q_iconst (x := 2) rfl dL_law_423 ?_
              refine q_iadd dL_law_424 ?_
              refine q_bind hyp (fun x56 e57 hyp => ?_)
              refine q_iald dL_law_425 e57 ?_
              refine q_bind hyp (fun p58 e60 hyp => ?_)
              refine q_callV (as := [.int x54, .int x56]) (st := [.int p53.1]) kY_X10_matter kL_L_39 (okX10_matter (l := l) e60) (by decide) rfl (obX10_matter e60) (Nat.le_of_ble_eq_true rfl) dL_law_426 ?_
              refine q_to (ls' := [(0, .ref v0), (1, .ref v1), (2, .ref v2), (3, .ref v3), (4, .int v4)]) (st' := [.int p58.1, .int p53.1]) rfl rfl ?_
              refine q_icmp_eq (tgt := 1423) dL_law_429 (by decide) (fun c59 => ?_) (fun c59 => ?_)
              · have hyp := q_pos c59 hyp
                refine q_iinc (ls' := [(4, .int (v4 + 7)), (0, .ref v0), (1, .ref v1), (2, .ref v2), (3, .ref v3)]) 4 rfl rfl (by decide) rfl dL_law_1423 ?_
                refine q_goto (tgt := 23) dL_law_1426 (by decide) ?_
                exact q_sub [1, 2, 3, 4, 0] rfl (ih v0 v1 v2 v3 (v4 + 7) p58.2 hyp)
              · have hyp := q_neg c59 hyp
                refine q_iconst (x := 0) rfl dL_law_432 ?_
                exact q_iretH rfl rfl dL_law_433 hyp
            · refine q_ite hyp (fun c62 hyp => ?_) (fun c62 hyp => ?_)
              · refine q_tableIn (off := 394) (tgt := 434) dL_law_40 (by rw [c62]; decide) (by rw [c62]; decide) (by rw [c62]; rfl) (by decide) ?_
                refine q_aload_n 1 rfl dL_law_434 ?_
                refine q_aload_n 0 rfl dL_law_435 ?_
                refine q_iload 4 rfl dL_law_436 ?_
                refine q_iconst (x := 1) rfl dL_law_438 ?_
                refine q_iadd dL_law_439 ?_
                refine q_bind hyp (fun x63 e64 hyp => ?_)
                refine q_iald dL_law_440 e64 ?_
                refine q_bind hyp (fun p65 e71 hyp => ?_)
                refine q_callV (as := [.int x63]) (st := []) kY_X9_spread kL_L_40 (okX9_spread (l := l) e71) (by decide) rfl (obX9_spread e71) (Nat.le_of_ble_eq_true rfl) dL_law_441 ?_
                refine q_to (ls' := [(0, .ref v0), (1, .ref v1), (2, .ref v2), (3, .ref v3), (4, .int v4)]) (st' := [.int p65.1]) rfl rfl ?_
                refine q_aload_n 2 rfl dL_law_444 ?_
                refine q_aload_n 0 rfl dL_law_445 ?_
                refine q_iload 4 rfl dL_law_446 ?_
                refine q_iconst (x := 1) rfl dL_law_448 ?_
                refine q_iadd dL_law_449 ?_
                refine q_bind hyp (fun x66 e67 hyp => ?_)
                refine q_iald dL_law_450 e67 ?_
                refine q_bind hyp (fun p68 e70 hyp => ?_)
                refine q_callV (as := [.int x66]) (st := [.int p65.1]) kY_X10_spread kL_L_44 (okX10_spread (l := l) e70) (by decide) rfl (obX10_spread e70) (Nat.le_of_ble_eq_true rfl) dL_law_451 ?_
                refine q_to (ls' := [(0, .ref v0), (1, .ref v1), (2, .ref v2), (3, .ref v3), (4, .int v4)]) (st' := [.int p68.1, .int p65.1]) rfl rfl ?_
                refine q_icmp_eq (tgt := 1423) dL_law_454 (by decide) (fun c69 => ?_) (fun c69 => ?_)
                · have hyp := q_pos c69 hyp
                  refine q_iinc (ls' := [(4, .int (v4 + 7)), (0, .ref v0), (1, .ref v1), (2, .ref v2), (3, .ref v3)]) 4 rfl rfl (by decide) rfl dL_law_1423 ?_
                  refine q_goto (tgt := 23) dL_law_1426 (by decide) ?_
                  exact q_sub [1, 2, 3, 4, 0] rfl (ih v0 v1 v2 v3 (v4 + 7) p68.2 hyp)
                · have hyp := q_neg c69 hyp
                  refine q_iconst (x := 0) rfl dL_law_457 ?_
                  exact q_iretH rfl rfl dL_law_458 hyp
              · refine q_ite hyp (fun c72 hyp => ?_) (fun c72 hyp => ?_)
                · refine q_tableIn (off := 419) (tgt := 459) dL_law_40 (by rw [c72]; decide) (by rw [c72]; decide) (by rw [c72]; rfl) (by decide) ?_
                  refine q_aload_n 1 rfl dL_law_459 ?_
                  refine q_aload_n 0 rfl dL_law_460 ?_
                  refine q_iload 4 rfl dL_law_461 ?_
                  refine q_iconst (x := 1) rfl dL_law_463 ?_
                  refine q_iadd dL_law_464 ?_
                  refine q_bind hyp (fun x73 e74 hyp => ?_)
                  refine q_iald dL_law_465 e74 ?_
                  refine q_bind hyp (fun p75 e81 hyp => ?_)
                  refine q_callV (as := [.int x73]) (st := []) kY_X9_eat kL_L_45 (okX9_eat (l := l) e81) (by decide) rfl (obX9_eat e81) (Nat.le_of_ble_eq_true rfl) dL_law_466 ?_
                  refine q_to (ls' := [(0, .ref v0), (1, .ref v1), (2, .ref v2), (3, .ref v3), (4, .int v4)]) (st' := [.int p75.1]) rfl rfl ?_
                  refine q_aload_n 2 rfl dL_law_469 ?_
                  refine q_aload_n 0 rfl dL_law_470 ?_
                  refine q_iload 4 rfl dL_law_471 ?_
                  refine q_iconst (x := 1) rfl dL_law_473 ?_
                  refine q_iadd dL_law_474 ?_
                  refine q_bind hyp (fun x76 e77 hyp => ?_)
                  refine q_iald dL_law_475 e77 ?_
                  refine q_bind hyp (fun p78 e80 hyp => ?_)
                  refine q_callV (as := [.int x76]) (st := [.int p75.1]) kY_X10_eat kL_L_48 (okX10_eat (l := l) e80) (by decide) rfl (obX10_eat e80) (Nat.le_of_ble_eq_true rfl) dL_law_476 ?_
                  refine q_to (ls' := [(0, .ref v0), (1, .ref v1), (2, .ref v2), (3, .ref v3), (4, .int v4)]) (st' := [.int p78.1, .int p75.1]) rfl rfl ?_
                  refine q_icmp_eq (tgt := 1423) dL_law_479 (by decide) (fun c79 => ?_) (fun c79 => ?_)
                  · have hyp := q_pos c79 hyp
                    refine q_iinc (ls' := [(4, .int (v4 + 7)), (0, .ref v0), (1, .ref v1), (2, .ref v2), (3, .ref v3)]) 4 rfl rfl (by decide) rfl dL_law_1423 ?_
                    refine q_goto (tgt := 23) dL_law_1426 (by decide) ?_
                    exact q_sub [1, 2, 3, 4, 0] rfl (ih v0 v1 v2 v3 (v4 + 7) p78.2 hyp)
                  · have hyp := q_neg c79 hyp
                    refine q_iconst (x := 0) rfl dL_law_482 ?_
                    exact q_iretH rfl rfl dL_law_483 hyp
                · refine q_ite hyp (fun c82 hyp => ?_) (fun c82 hyp => ?_)
                  · refine q_tableIn (off := 444) (tgt := 484) dL_law_40 (by rw [c82]; decide) (by rw [c82]; decide) (by rw [c82]; rfl) (by decide) ?_
                    refine q_aload_n 1 rfl dL_law_484 ?_
                    refine q_bind hyp (fun p83 e87 hyp => ?_)
                    refine q_callV (as := []) (st := []) kY_X9_year kL_L_49 (okX9_year (l := l) e87) (by decide) rfl (obX9_year e87) (Nat.le_of_ble_eq_true rfl) dL_law_485 ?_
                    refine q_to (ls' := [(0, .ref v0), (1, .ref v1), (2, .ref v2), (3, .ref v3), (4, .int v4)]) (st' := [.int p83.1]) rfl rfl ?_
                    refine q_aload_n 2 rfl dL_law_488 ?_
                    refine q_bind hyp (fun p84 e86 hyp => ?_)
                    refine q_callV (as := []) (st := [.int p83.1]) kY_X10_year kL_L_52 (okX10_year (l := l) e86) (by decide) rfl (obX10_year e86) (Nat.le_of_ble_eq_true rfl) dL_law_489 ?_
                    refine q_to (ls' := [(0, .ref v0), (1, .ref v1), (2, .ref v2), (3, .ref v3), (4, .int v4)]) (st' := [.int p84.1, .int p83.1]) rfl rfl ?_
                    refine q_icmp_eq (tgt := 1423) dL_law_492 (by decide) (fun c85 => ?_) (fun c85 => ?_)
                    · have hyp := q_pos c85 hyp
                      refine q_iinc (ls' := [(4, .int (v4 + 7)), (0, .ref v0), (1, .ref v1), (2, .ref v2), (3, .ref v3)]) 4 rfl rfl (by decide) rfl dL_law_1423 ?_
                      refine q_goto (tgt := 23) dL_law_1426 (by decide) ?_
                      exact q_sub [1, 2, 3, 4, 0] rfl (ih v0 v1 v2 v3 (v4 + 7) p84.2 hyp)
                    · have hyp := q_neg c85 hyp
                      refine q_iconst (x := 0) rfl dL_law_495 ?_
                      exact q_iretH rfl rfl dL_law_496 hyp
                  · refine q_ite hyp (fun c88 hyp => ?_) (fun c88 hyp => ?_)
                    · refine q_tableIn (off := 457) (tgt := 497) dL_law_40 (by rw [c88]; decide) (by rw [c88]; decide) (by rw [c88]; rfl) (by decide) ?_
                      refine q_aload_n 1 rfl dL_law_497 ?_
                      refine q_bind hyp (fun p89 e93 hyp => ?_)
                      refine q_callV (as := []) (st := []) kY_X9_undo kL_L_53 (okX9_undo (l := l) e93) (by decide) rfl (obX9_undo e93) (Nat.le_of_ble_eq_true rfl) dL_law_498 ?_
                      refine q_to (ls' := [(0, .ref v0), (1, .ref v1), (2, .ref v2), (3, .ref v3), (4, .int v4)]) (st' := [.int p89.1]) rfl rfl ?_
                      refine q_aload_n 2 rfl dL_law_501 ?_
                      refine q_bind hyp (fun p90 e92 hyp => ?_)
                      refine q_callV (as := []) (st := [.int p89.1]) kY_X10_undo kL_L_57 (okX10_undo (l := l) e92) (by decide) rfl (obX10_undo e92) (Nat.le_of_ble_eq_true rfl) dL_law_502 ?_
                      refine q_to (ls' := [(0, .ref v0), (1, .ref v1), (2, .ref v2), (3, .ref v3), (4, .int v4)]) (st' := [.int p90.1, .int p89.1]) rfl rfl ?_
                      refine q_icmp_eq (tgt := 1423) dL_law_505 (by decide) (fun c91 => ?_) (fun c91 => ?_)
                      · have hyp := q_pos c91 hyp
                        refine q_iinc (ls' := [(4, .int (v4 + 7)), (0, .ref v0), (1, .ref v1), (2, .ref v2), (3, .ref v3)]) 4 rfl rfl (by decide) rfl dL_law_1423 ?_
                        refine q_goto (tgt := 23) dL_law_1426 (by decide) ?_
                        exact q_sub [1, 2, 3, 4, 0] rfl (ih v0 v1 v2 v3 (v4 + 7) p90.2 hyp)
                      · have hyp := q_neg c91 hyp
                        refine q_iconst (x := 0) rfl dL_law_508 ?_
                        exact q_iretH rfl rfl dL_law_509 hyp
                    · refine q_ite hyp (fun c94 hyp => ?_) (fun c94 hyp => ?_)
                      · refine q_tableIn (off := 470) (tgt := 510) dL_law_40 (by rw [c94]; decide) (by rw [c94]; decide) (by rw [c94]; rfl) (by decide) ?_
                        refine q_aload_n 1 rfl dL_law_510 ?_
                        refine q_aload_n 0 rfl dL_law_511 ?_
                        refine q_iload 4 rfl dL_law_512 ?_
                        refine q_iconst (x := 1) rfl dL_law_514 ?_
                        refine q_iadd dL_law_515 ?_
                        refine q_bind hyp (fun x95 e96 hyp => ?_)
                        refine q_iald dL_law_516 e96 ?_
                        refine q_bind hyp (fun p97 e103 hyp => ?_)
                        refine q_callV (as := [.int x95]) (st := []) kY_X9_judged kL_L_58 (okX9_judged (l := l) e103) (by decide) rfl (obX9_judged e103) (Nat.le_of_ble_eq_true rfl) dL_law_517 ?_
                        refine q_to (ls' := [(0, .ref v0), (1, .ref v1), (2, .ref v2), (3, .ref v3), (4, .int v4)]) (st' := [.int p97.1]) rfl rfl ?_
                        refine q_aload_n 2 rfl dL_law_520 ?_
                        refine q_aload_n 0 rfl dL_law_521 ?_
                        refine q_iload 4 rfl dL_law_522 ?_
                        refine q_iconst (x := 1) rfl dL_law_524 ?_
                        refine q_iadd dL_law_525 ?_
                        refine q_bind hyp (fun x98 e99 hyp => ?_)
                        refine q_iald dL_law_526 e99 ?_
                        refine q_bind hyp (fun p100 e102 hyp => ?_)
                        refine q_callV (as := [.int x98]) (st := [.int p97.1]) kY_X10_judged kL_L_61 (okX10_judged (l := l) e102) (by decide) rfl (obX10_judged e102) (Nat.le_of_ble_eq_true rfl) dL_law_527 ?_
                        refine q_to (ls' := [(0, .ref v0), (1, .ref v1), (2, .ref v2), (3, .ref v3), (4, .int v4)]) (st' := [.int p100.1, .int p97.1]) rfl rfl ?_
                        refine q_icmp_eq (tgt := 1423) dL_law_530 (by decide) (fun c101 => ?_) (fun c101 => ?_)
                        · have hyp := q_pos c101 hyp
                          refine q_iinc (ls' := [(4, .int (v4 + 7)), (0, .ref v0), (1, .ref v1), (2, .ref v2), (3, .ref v3)]) 4 rfl rfl (by decide) rfl dL_law_1423 ?_
                          refine q_goto (tgt := 23) dL_law_1426 (by decide) ?_
                          exact q_sub [1, 2, 3, 4, 0] rfl (ih v0 v1 v2 v3 (v4 + 7) p100.2 hyp)
                        · have hyp := q_neg c101 hyp
                          refine q_iconst (x := 0) rfl dL_law_533 ?_
                          exact q_iretH rfl rfl dL_law_534 hyp
                      · refine q_ite hyp (fun c104 hyp => ?_) (fun c104 hyp => ?_)
                        · refine q_tableIn (off := 495) (tgt := 535) dL_law_40 (by rw [c104]; decide) (by rw [c104]; decide) (by rw [c104]; rfl) (by decide) ?_
                          refine q_aload_n 1 rfl dL_law_535 ?_
                          refine q_bind hyp (fun p105 e109 hyp => ?_)
                          refine q_callV (as := []) (st := []) kY_X9_meant kL_L_62 (okX9_meant (l := l) e109) (by decide) rfl (obX9_meant e109) (Nat.le_of_ble_eq_true rfl) dL_law_536 ?_
                          refine q_to (ls' := [(0, .ref v0), (1, .ref v1), (2, .ref v2), (3, .ref v3), (4, .int v4)]) (st' := [.int p105.1]) rfl rfl ?_
                          refine q_aload_n 2 rfl dL_law_539 ?_
                          refine q_bind hyp (fun p106 e108 hyp => ?_)
                          refine q_callV (as := []) (st := [.int p105.1]) kY_X10_meant kL_L_65 (okX10_meant (l := l) e108) (by decide) rfl (obX10_meant e108) (Nat.le_of_ble_eq_true rfl) dL_law_540 ?_
                          refine q_to (ls' := [(0, .ref v0), (1, .ref v1), (2, .ref v2), (3, .ref v3), (4, .int v4)]) (st' := [.int p106.1, .int p105.1]) rfl rfl ?_
                          refine q_icmp_eq (tgt := 1423) dL_law_543 (by decide) (fun c107 => ?_) (fun c107 => ?_)
                          · have hyp := q_pos c107 hyp
                            refine q_iinc (ls' := [(4, .int (v4 + 7)), (0, .ref v0), (1, .ref v1), (2, .ref v2), (3, .ref v3)]) 4 rfl rfl (by decide) rfl dL_law_1423 ?_
                            refine q_goto (tgt := 23) dL_law_1426 (by decide) ?_
                            exact q_sub [1, 2, 3, 4, 0] rfl (ih v0 v1 v2 v3 (v4 + 7) p106.2 hyp)
                          · have hyp := q_neg c107 hyp
                            refine q_iconst (x := 0) rfl dL_law_546 ?_
                            exact q_iretH rfl rfl dL_law_547 hyp
                        · refine q_ite hyp (fun c110 hyp => ?_) (fun c110 hyp => ?_)
                          · refine q_tableIn (off := 508) (tgt := 548) dL_law_40 (by rw [c110]; decide) (by rw [c110]; decide) (by rw [c110]; rfl) (by decide) ?_
                            refine q_aload_n 1 rfl dL_law_548 ?_
                            refine q_bind hyp (fun p111 e115 hyp => ?_)
                            refine q_callV (as := []) (st := []) kY_X9_right kL_L_66 (okX9_right (l := l) e115) (by decide) rfl (obX9_right e115) (Nat.le_of_ble_eq_true rfl) dL_law_549 ?_
                            refine q_to (ls' := [(0, .ref v0), (1, .ref v1), (2, .ref v2), (3, .ref v3), (4, .int v4)]) (st' := [.int p111.1]) rfl rfl ?_
                            refine q_aload_n 2 rfl dL_law_552 ?_
                            refine q_bind hyp (fun p112 e114 hyp => ?_)
                            refine q_callV (as := []) (st := [.int p111.1]) kY_X10_right kL_L_69 (okX10_right (l := l) e114) (by decide) rfl (obX10_right e114) (Nat.le_of_ble_eq_true rfl) dL_law_553 ?_
                            refine q_to (ls' := [(0, .ref v0), (1, .ref v1), (2, .ref v2), (3, .ref v3), (4, .int v4)]) (st' := [.int p112.1, .int p111.1]) rfl rfl ?_
                            refine q_icmp_eq (tgt := 1423) dL_law_556 (by decide) (fun c113 => ?_) (fun c113 => ?_)
                            · have hyp := q_pos c113 hyp
                              refine q_iinc (ls' := [(4, .int (v4 + 7)), (0, .ref v0), (1, .ref v1), (2, .ref v2), (3, .ref v3)]) 4 rfl rfl (by decide) rfl dL_law_1423 ?_
                              refine q_goto (tgt := 23) dL_law_1426 (by decide) ?_
                              exact q_sub [1, 2, 3, 4, 0] rfl (ih v0 v1 v2 v3 (v4 + 7) p112.2 hyp)
                            · have hyp := q_neg c113 hyp
                              refine q_iconst (x := 0) rfl dL_law_559 ?_
                              exact q_iretH rfl rfl dL_law_560 hyp
                          · refine q_ite hyp (fun c116 hyp => ?_) (fun c116 hyp => ?_)
                            · refine q_tableIn (off := 521) (tgt := 561) dL_law_40 (by rw [c116]; decide) (by rw [c116]; decide) (by rw [c116]; rfl) (by decide) ?_
                              refine q_aload_n 1 rfl dL_law_561 ?_
                              refine q_aload_n 0 rfl dL_law_562 ?_
                              refine q_iload 4 rfl dL_law_563 ?_
                              refine q_iconst (x := 1) rfl dL_law_565 ?_
                              refine q_iadd dL_law_566 ?_
                              refine q_bind hyp (fun x117 e118 hyp => ?_)
                              refine q_iald dL_law_567 e118 ?_
                              refine q_bind hyp (fun p119 e125 hyp => ?_)
                              refine q_callV (as := [.int x117]) (st := []) kY_X9_wants kL_L_70 (okX9_wants (l := l) e125) (by decide) rfl (obX9_wants e125) (Nat.le_of_ble_eq_true rfl) dL_law_568 ?_
                              refine q_to (ls' := [(0, .ref v0), (1, .ref v1), (2, .ref v2), (3, .ref v3), (4, .int v4)]) (st' := [.int p119.1]) rfl rfl ?_
                              refine q_aload_n 2 rfl dL_law_571 ?_
                              refine q_aload_n 0 rfl dL_law_572 ?_
                              refine q_iload 4 rfl dL_law_573 ?_
                              refine q_iconst (x := 1) rfl dL_law_575 ?_
                              refine q_iadd dL_law_576 ?_
                              refine q_bind hyp (fun x120 e121 hyp => ?_)
                              refine q_iald dL_law_577 e121 ?_
                              refine q_bind hyp (fun p122 e124 hyp => ?_)
                              refine q_callV (as := [.int x120]) (st := [.int p119.1]) kY_X10_wants kL_L_73 (okX10_wants (l := l) e124) (by decide) rfl (obX10_wants e124) (Nat.le_of_ble_eq_true rfl) dL_law_578 ?_
                              refine q_to (ls' := [(0, .ref v0), (1, .ref v1), (2, .ref v2), (3, .ref v3), (4, .int v4)]) (st' := [.int p122.1, .int p119.1]) rfl rfl ?_
                              refine q_icmp_eq (tgt := 1423) dL_law_581 (by decide) (fun c123 => ?_) (fun c123 => ?_)
                              · have hyp := q_pos c123 hyp
                                refine q_iinc (ls' := [(4, .int (v4 + 7)), (0, .ref v0), (1, .ref v1), (2, .ref v2), (3, .ref v3)]) 4 rfl rfl (by decide) rfl dL_law_1423 ?_
                                refine q_goto (tgt := 23) dL_law_1426 (by decide) ?_
                                exact q_sub [1, 2, 3, 4, 0] rfl (ih v0 v1 v2 v3 (v4 + 7) p122.2 hyp)
                              · have hyp := q_neg c123 hyp
                                refine q_iconst (x := 0) rfl dL_law_584 ?_
                                exact q_iretH rfl rfl dL_law_585 hyp
                            · refine q_ite hyp (fun c126 hyp => ?_) (fun c126 hyp => ?_)
                              · refine q_tableIn (off := 546) (tgt := 586) dL_law_40 (by rw [c126]; decide) (by rw [c126]; decide) (by rw [c126]; rfl) (by decide) ?_
                                refine q_aload_n 1 rfl dL_law_586 ?_
                                refine q_aload_n 0 rfl dL_law_587 ?_
                                refine q_iload 4 rfl dL_law_588 ?_
                                refine q_iconst (x := 1) rfl dL_law_590 ?_
                                refine q_iadd dL_law_591 ?_
                                refine q_bind hyp (fun x127 e128 hyp => ?_)
                                refine q_iald dL_law_592 e128 ?_
                                refine q_bind hyp (fun p129 e135 hyp => ?_)
                                refine q_callV (as := [.int x127]) (st := []) kY_X9_cost kL_L_74 (okX9_cost (l := l) e135) (by decide) rfl (obX9_cost e135) (Nat.le_of_ble_eq_true rfl) dL_law_593 ?_
                                refine q_to (ls' := [(0, .ref v0), (1, .ref v1), (2, .ref v2), (3, .ref v3), (4, .int v4)]) (st' := [.int p129.1]) rfl rfl ?_
                                refine q_aload_n 2 rfl dL_law_596 ?_
                                refine q_aload_n 0 rfl dL_law_597 ?_
                                refine q_iload 4 rfl dL_law_598 ?_
                                refine q_iconst (x := 1) rfl dL_law_600 ?_
                                refine q_iadd dL_law_601 ?_
                                refine q_bind hyp (fun x130 e131 hyp => ?_)
                                refine q_iald dL_law_602 e131 ?_
                                refine q_bind hyp (fun p132 e134 hyp => ?_)
                                refine q_callV (as := [.int x130]) (st := [.int p129.1]) kY_X10_cost kL_L_77 (okX10_cost (l := l) e134) (by decide) rfl (obX10_cost e134) (Nat.le_of_ble_eq_true rfl) dL_law_603 ?_
                                refine q_to (ls' := [(0, .ref v0), (1, .ref v1), (2, .ref v2), (3, .ref v3), (4, .int v4)]) (st' := [.int p132.1, .int p129.1]) rfl rfl ?_
                                refine q_icmp_eq (tgt := 1423) dL_law_606 (by decide) (fun c133 => ?_) (fun c133 => ?_)
                                · have hyp := q_pos c133 hyp
                                  refine q_iinc (ls' := [(4, .int (v4 + 7)), (0, .ref v0), (1, .ref v1), (2, .ref v2), (3, .ref v3)]) 4 rfl rfl (by decide) rfl dL_law_1423 ?_
                                  refine q_goto (tgt := 23) dL_law_1426 (by decide) ?_
                                  exact q_sub [1, 2, 3, 4, 0] rfl (ih v0 v1 v2 v3 (v4 + 7) p132.2 hyp)
                                · have hyp := q_neg c133 hyp
                                  refine q_iconst (x := 0) rfl dL_law_609 ?_
                                  exact q_iretH rfl rfl dL_law_610 hyp
                              · refine q_ite hyp (fun c136 hyp => ?_) (fun c136 hyp => ?_)
                                · refine q_tableIn (off := 571) (tgt := 611) dL_law_40 (by rw [c136]; decide) (by rw [c136]; decide) (by rw [c136]; rfl) (by decide) ?_
                                  refine q_aload_n 1 rfl dL_law_611 ?_
                                  refine q_aload_n 0 rfl dL_law_612 ?_
                                  refine q_iload 4 rfl dL_law_613 ?_
                                  refine q_iconst (x := 1) rfl dL_law_615 ?_
                                  refine q_iadd dL_law_616 ?_
                                  refine q_bind hyp (fun x137 e138 hyp => ?_)
                                  refine q_iald dL_law_617 e138 ?_
                                  refine q_aload_n 0 rfl dL_law_618 ?_
                                  refine q_iload 4 rfl dL_law_619 ?_
                                  refine q_iconst (x := 2) rfl dL_law_621 ?_
                                  refine q_iadd dL_law_622 ?_
                                  refine q_bind hyp (fun x139 e140 hyp => ?_)
                                  refine q_iald dL_law_623 e140 ?_
                                  refine q_bind hyp (fun p141 e149 hyp => ?_)
                                  refine q_callV (as := [.int x137, .int x139]) (st := []) kY_X9_cheap kL_L_78 (okX9_cheap (l := l) e149) (by decide) rfl (obX9_cheap e149) (Nat.le_of_ble_eq_true rfl) dL_law_624 ?_
                                  refine q_to (ls' := [(0, .ref v0), (1, .ref v1), (2, .ref v2), (3, .ref v3), (4, .int v4)]) (st' := [.int p141.1]) rfl rfl ?_
                                  refine q_aload_n 2 rfl dL_law_627 ?_
                                  refine q_aload_n 0 rfl dL_law_628 ?_
                                  refine q_iload 4 rfl dL_law_629 ?_
                                  refine q_iconst (x := 1) rfl dL_law_631 ?_
                                  refine q_iadd dL_law_632 ?_
                                  refine q_bind hyp (fun x142 e143 hyp => ?_)
                                  refine q_iald dL_law_633 e143 ?_
                                  refine q_aload_n 0 rfl dL_law_634 ?_
                                  refine q_iload 4 rfl dL_law_635 ?_
                                  refine q_iconst (x := 2) rfl dL_law_637 ?_
                                  refine q_iadd dL_law_638 ?_
                                  refine q_bind hyp (fun x144 e145 hyp => ?_)
                                  refine q_iald dL_law_639 e145 ?_
                                  refine q_bind hyp (fun p146 e148 hyp => ?_)
                                  refine q_callV (as := [.int x142, .int x144]) (st := [.int p141.1]) kY_X10_cheap kL_L_81 (okX10_cheap (l := l) e148) (by decide) rfl (obX10_cheap e148) (Nat.le_of_ble_eq_true rfl) dL_law_640 ?_
                                  refine q_to (ls' := [(0, .ref v0), (1, .ref v1), (2, .ref v2), (3, .ref v3), (4, .int v4)]) (st' := [.int p146.1, .int p141.1]) rfl rfl ?_
                                  refine q_icmp_eq (tgt := 1423) dL_law_643 (by decide) (fun c147 => ?_) (fun c147 => ?_)
                                  · have hyp := q_pos c147 hyp
                                    refine q_iinc (ls' := [(4, .int (v4 + 7)), (0, .ref v0), (1, .ref v1), (2, .ref v2), (3, .ref v3)]) 4 rfl rfl (by decide) rfl dL_law_1423 ?_
                                    refine q_goto (tgt := 23) dL_law_1426 (by decide) ?_
                                    exact q_sub [1, 2, 3, 4, 0] rfl (ih v0 v1 v2 v3 (v4 + 7) p146.2 hyp)
                                  · have hyp := q_neg c147 hyp
                                    refine q_iconst (x := 0) rfl dL_law_646 ?_
                                    exact q_iretH rfl rfl dL_law_647 hyp
                                · refine q_ite hyp (fun c150 hyp => ?_) (fun c150 hyp => ?_)
                                  · refine q_tableIn (off := 608) (tgt := 648) dL_law_40 (by rw [c150]; decide) (by rw [c150]; decide) (by rw [c150]; rfl) (by decide) ?_
                                    refine q_aload_n 1 rfl dL_law_648 ?_
                                    refine q_aload_n 0 rfl dL_law_649 ?_
                                    refine q_iload 4 rfl dL_law_650 ?_
                                    refine q_iconst (x := 1) rfl dL_law_652 ?_
                                    refine q_iadd dL_law_653 ?_
                                    refine q_bind hyp (fun x151 e152 hyp => ?_)
                                    refine q_iald dL_law_654 e152 ?_
                                    refine q_aload_n 0 rfl dL_law_655 ?_
                                    refine q_iload 4 rfl dL_law_656 ?_
                                    refine q_iconst (x := 2) rfl dL_law_658 ?_
                                    refine q_iadd dL_law_659 ?_
                                    refine q_bind hyp (fun x153 e154 hyp => ?_)
                                    refine q_iald dL_law_660 e154 ?_
                                    refine q_bind hyp (fun p155 e163 hyp => ?_)
                                    refine q_callV (as := [.int x151, .int x153]) (st := []) kY_X9_most kL_L_82 (okX9_most (l := l) e163) (by decide) rfl (obX9_most e163) (Nat.le_of_ble_eq_true rfl) dL_law_661 ?_
                                    refine q_to (ls' := [(0, .ref v0), (1, .ref v1), (2, .ref v2), (3, .ref v3), (4, .int v4)]) (st' := [.int p155.1]) rfl rfl ?_
                                    refine q_aload_n 2 rfl dL_law_664 ?_
                                    refine q_aload_n 0 rfl dL_law_665 ?_
                                    refine q_iload 4 rfl dL_law_666 ?_
                                    refine q_iconst (x := 1) rfl dL_law_668 ?_
                                    refine q_iadd dL_law_669 ?_
                                    refine q_bind hyp (fun x156 e157 hyp => ?_)
                                    refine q_iald dL_law_670 e157 ?_
                                    refine q_aload_n 0 rfl dL_law_671 ?_
                                    refine q_iload 4 rfl dL_law_672 ?_
                                    refine q_iconst (x := 2) rfl dL_law_674 ?_
                                    refine q_iadd dL_law_675 ?_
                                    refine q_bind hyp (fun x158 e159 hyp => ?_)
                                    refine q_iald dL_law_676 e159 ?_
                                    refine q_bind hyp (fun p160 e162 hyp => ?_)
                                    refine q_callV (as := [.int x156, .int x158]) (st := [.int p155.1]) kY_X10_most kL_L_85 (okX10_most (l := l) e162) (by decide) rfl (obX10_most e162) (Nat.le_of_ble_eq_true rfl) dL_law_677 ?_
                                    refine q_to (ls' := [(0, .ref v0), (1, .ref v1), (2, .ref v2), (3, .ref v3), (4, .int v4)]) (st' := [.int p160.1, .int p155.1]) rfl rfl ?_
                                    refine q_icmp_eq (tgt := 1423) dL_law_680 (by decide) (fun c161 => ?_) (fun c161 => ?_)
                                    · have hyp := q_pos c161 hyp
                                      refine q_iinc (ls' := [(4, .int (v4 + 7)), (0, .ref v0), (1, .ref v1), (2, .ref v2), (3, .ref v3)]) 4 rfl rfl (by decide) rfl dL_law_1423 ?_
                                      refine q_goto (tgt := 23) dL_law_1426 (by decide) ?_
                                      exact q_sub [1, 2, 3, 4, 0] rfl (ih v0 v1 v2 v3 (v4 + 7) p160.2 hyp)
                                    · have hyp := q_neg c161 hyp
                                      refine q_iconst (x := 0) rfl dL_law_683 ?_
                                      exact q_iretH rfl rfl dL_law_684 hyp
                                  · refine q_ite hyp (fun c164 hyp => ?_) (fun c164 hyp => ?_)
                                    · refine q_tableIn (off := 645) (tgt := 685) dL_law_40 (by rw [c164]; decide) (by rw [c164]; decide) (by rw [c164]; rfl) (by decide) ?_
                                      refine q_aload_n 1 rfl dL_law_685 ?_
                                      refine q_bind hyp (fun p165 e169 hyp => ?_)
                                      refine q_callV (as := []) (st := []) kY_X9_all kL_L_86 (okX9_all (l := l) e169) (by decide) rfl (obX9_all e169) (Nat.le_of_ble_eq_true rfl) dL_law_686 ?_
                                      refine q_to (ls' := [(0, .ref v0), (1, .ref v1), (2, .ref v2), (3, .ref v3), (4, .int v4)]) (st' := [.int p165.1]) rfl rfl ?_
                                      refine q_aload_n 2 rfl dL_law_689 ?_
                                      refine q_bind hyp (fun p166 e168 hyp => ?_)
                                      refine q_callV (as := []) (st := [.int p165.1]) kY_X10_all kL_L_89 (okX10_all (l := l) e168) (by decide) rfl (obX10_all e168) (Nat.le_of_ble_eq_true rfl) dL_law_690 ?_
                                      refine q_to (ls' := [(0, .ref v0), (1, .ref v1), (2, .ref v2), (3, .ref v3), (4, .int v4)]) (st' := [.int p166.1, .int p165.1]) rfl rfl ?_
                                      refine q_icmp_eq (tgt := 1423) dL_law_693 (by decide) (fun c167 => ?_) (fun c167 => ?_)
                                      · have hyp := q_pos c167 hyp
                                        refine q_iinc (ls' := [(4, .int (v4 + 7)), (0, .ref v0), (1, .ref v1), (2, .ref v2), (3, .ref v3)]) 4 rfl rfl (by decide) rfl dL_law_1423 ?_
                                        refine q_goto (tgt := 23) dL_law_1426 (by decide) ?_
                                        exact q_sub [1, 2, 3, 4, 0] rfl (ih v0 v1 v2 v3 (v4 + 7) p166.2 hyp)
                                      · have hyp := q_neg c167 hyp
                                        refine q_iconst (x := 0) rfl dL_law_696 ?_
                                        exact q_iretH rfl rfl dL_law_697 hyp
                                    · refine q_ite hyp (fun c170 hyp => ?_) (fun c170 hyp => ?_)
                                      · refine q_tableIn (off := 658) (tgt := 698) dL_law_40 (by rw [c170]; decide) (by rw [c170]; decide) (by rw [c170]; rfl) (by decide) ?_
                                        refine q_aload_n 1 rfl dL_law_698 ?_
                                        refine q_bind hyp (fun p171 e175 hyp => ?_)
                                        refine q_callV (as := []) (st := []) kY_X9_lacks kL_L_90 (okX9_lacks (l := l) e175) (by decide) rfl (obX9_lacks e175) (Nat.le_of_ble_eq_true rfl) dL_law_699 ?_
                                        refine q_to (ls' := [(0, .ref v0), (1, .ref v1), (2, .ref v2), (3, .ref v3), (4, .int v4)]) (st' := [.int p171.1]) rfl rfl ?_
                                        refine q_aload_n 2 rfl dL_law_702 ?_
                                        refine q_bind hyp (fun p172 e174 hyp => ?_)
                                        refine q_callV (as := []) (st := [.int p171.1]) kY_X10_lacks kL_L_93 (okX10_lacks (l := l) e174) (by decide) rfl (obX10_lacks e174) (Nat.le_of_ble_eq_true rfl) dL_law_703 ?_
                                        refine q_to (ls' := [(0, .ref v0), (1, .ref v1), (2, .ref v2), (3, .ref v3), (4, .int v4)]) (st' := [.int p172.1, .int p171.1]) rfl rfl ?_
                                        refine q_icmp_eq (tgt := 1423) dL_law_706 (by decide) (fun c173 => ?_) (fun c173 => ?_)
                                        · have hyp := q_pos c173 hyp
                                          refine q_iinc (ls' := [(4, .int (v4 + 7)), (0, .ref v0), (1, .ref v1), (2, .ref v2), (3, .ref v3)]) 4 rfl rfl (by decide) rfl dL_law_1423 ?_
                                          refine q_goto (tgt := 23) dL_law_1426 (by decide) ?_
                                          exact q_sub [1, 2, 3, 4, 0] rfl (ih v0 v1 v2 v3 (v4 + 7) p172.2 hyp)
                                        · have hyp := q_neg c173 hyp
                                          refine q_iconst (x := 0) rfl dL_law_709 ?_
                                          exact q_iretH rfl rfl dL_law_710 hyp
                                      · refine q_ite hyp (fun c176 hyp => ?_) (fun c176 hyp => ?_)
                                        · refine q_tableIn (off := 671) (tgt := 711) dL_law_40 (by rw [c176]; decide) (by rw [c176]; decide) (by rw [c176]; rfl) (by decide) ?_
                                          refine q_aload_n 1 rfl dL_law_711 ?_
                                          refine q_bind hyp (fun p177 e181 hyp => ?_)
                                          refine q_callV (as := []) (st := []) kY_X9_easiest kL_L_94 (okX9_easiest (l := l) e181) (by decide) rfl (obX9_easiest e181) (Nat.le_of_ble_eq_true rfl) dL_law_712 ?_
                                          refine q_to (ls' := [(0, .ref v0), (1, .ref v1), (2, .ref v2), (3, .ref v3), (4, .int v4)]) (st' := [.int p177.1]) rfl rfl ?_
                                          refine q_aload_n 2 rfl dL_law_715 ?_
                                          refine q_bind hyp (fun p178 e180 hyp => ?_)
                                          refine q_callV (as := []) (st := [.int p177.1]) kY_X10_easiest kL_L_97 (okX10_easiest (l := l) e180) (by decide) rfl (obX10_easiest e180) (Nat.le_of_ble_eq_true rfl) dL_law_716 ?_
                                          refine q_to (ls' := [(0, .ref v0), (1, .ref v1), (2, .ref v2), (3, .ref v3), (4, .int v4)]) (st' := [.int p178.1, .int p177.1]) rfl rfl ?_
                                          refine q_icmp_eq (tgt := 1423) dL_law_719 (by decide) (fun c179 => ?_) (fun c179 => ?_)
                                          · have hyp := q_pos c179 hyp
                                            refine q_iinc (ls' := [(4, .int (v4 + 7)), (0, .ref v0), (1, .ref v1), (2, .ref v2), (3, .ref v3)]) 4 rfl rfl (by decide) rfl dL_law_1423 ?_
                                            refine q_goto (tgt := 23) dL_law_1426 (by decide) ?_
                                            exact q_sub [1, 2, 3, 4, 0] rfl (ih v0 v1 v2 v3 (v4 + 7) p178.2 hyp)
                                          · have hyp := q_neg c179 hyp
                                            refine q_iconst (x := 0) rfl dL_law_722 ?_
                                            exact q_iretH rfl rfl dL_law_723 hyp
                                        · refine q_ite hyp (fun c182 hyp => ?_) (fun c182 hyp => ?_)
                                          · refine q_tableIn (off := 684) (tgt := 724) dL_law_40 (by rw [c182]; decide) (by rw [c182]; decide) (by rw [c182]; rfl) (by decide) ?_
                                            refine q_aload_n 1 rfl dL_law_724 ?_
                                            refine q_aload_n 0 rfl dL_law_725 ?_
                                            refine q_iload 4 rfl dL_law_726 ?_
                                            refine q_iconst (x := 1) rfl dL_law_728 ?_
                                            refine q_iadd dL_law_729 ?_
                                            refine q_bind hyp (fun x183 e184 hyp => ?_)
                                            refine q_iald dL_law_730 e184 ?_
                                            refine q_aload_n 0 rfl dL_law_731 ?_
                                            refine q_iload 4 rfl dL_law_732 ?_
                                            refine q_iconst (x := 2) rfl dL_law_734 ?_
                                            refine q_iadd dL_law_735 ?_
                                            refine q_bind hyp (fun x185 e186 hyp => ?_)
                                            refine q_iald dL_law_736 e186 ?_
                                            refine q_bind hyp (fun p187 e195 hyp => ?_)
                                            refine q_callV (as := [.int x183, .int x185]) (st := []) kY_X9_later kL_L_98 (okX9_later (l := l) e195) (by decide) rfl (obX9_later e195) (Nat.le_of_ble_eq_true rfl) dL_law_737 ?_
                                            refine q_to (ls' := [(0, .ref v0), (1, .ref v1), (2, .ref v2), (3, .ref v3), (4, .int v4)]) (st' := [.int p187.1]) rfl rfl ?_
                                            refine q_aload_n 2 rfl dL_law_740 ?_
                                            refine q_aload_n 0 rfl dL_law_741 ?_
                                            refine q_iload 4 rfl dL_law_742 ?_
                                            refine q_iconst (x := 1) rfl dL_law_744 ?_
                                            refine q_iadd dL_law_745 ?_
                                            refine q_bind hyp (fun x188 e189 hyp => ?_)
                                            refine q_iald dL_law_746 e189 ?_
                                            refine q_aload_n 0 rfl dL_law_747 ?_
                                            refine q_iload 4 rfl dL_law_748 ?_
                                            refine q_iconst (x := 2) rfl dL_law_750 ?_
                                            refine q_iadd dL_law_751 ?_
                                            refine q_bind hyp (fun x190 e191 hyp => ?_)
                                            refine q_iald dL_law_752 e191 ?_
                                            refine q_bind hyp (fun p192 e194 hyp => ?_)
                                            refine q_callV (as := [.int x188, .int x190]) (st := [.int p187.1]) kY_X10_later kL_L_101 (okX10_later (l := l) e194) (by decide) rfl (obX10_later e194) (Nat.le_of_ble_eq_true rfl) dL_law_753 ?_
                                            refine q_to (ls' := [(0, .ref v0), (1, .ref v1), (2, .ref v2), (3, .ref v3), (4, .int v4)]) (st' := [.int p192.1, .int p187.1]) rfl rfl ?_
                                            refine q_icmp_eq (tgt := 1423) dL_law_756 (by decide) (fun c193 => ?_) (fun c193 => ?_)
                                            · have hyp := q_pos c193 hyp
                                              refine q_iinc (ls' := [(4, .int (v4 + 7)), (0, .ref v0), (1, .ref v1), (2, .ref v2), (3, .ref v3)]) 4 rfl rfl (by decide) rfl dL_law_1423 ?_
                                              refine q_goto (tgt := 23) dL_law_1426 (by decide) ?_
                                              exact q_sub [1, 2, 3, 4, 0] rfl (ih v0 v1 v2 v3 (v4 + 7) p192.2 hyp)
                                            · have hyp := q_neg c193 hyp
                                              refine q_iconst (x := 0) rfl dL_law_759 ?_
                                              exact q_iretH rfl rfl dL_law_760 hyp
                                          · refine q_ite hyp (fun c196 hyp => ?_) (fun c196 hyp => ?_)
                                            · refine q_tableIn (off := 721) (tgt := 761) dL_law_40 (by rw [c196]; decide) (by rw [c196]; decide) (by rw [c196]; rfl) (by decide) ?_
                                              refine q_aload_n 1 rfl dL_law_761 ?_
                                              refine q_aload_n 0 rfl dL_law_762 ?_
                                              refine q_iload 4 rfl dL_law_763 ?_
                                              refine q_iconst (x := 1) rfl dL_law_765 ?_
                                              refine q_iadd dL_law_766 ?_
                                              refine q_bind hyp (fun x197 e198 hyp => ?_)
                                              refine q_iald dL_law_767 e198 ?_
                                              refine q_bind hyp (fun p199 e205 hyp => ?_)
                                              refine q_callV (as := [.int x197]) (st := []) kY_X9_again kL_L_102 (okX9_again (l := l) e205) (by decide) rfl (obX9_again e205) (Nat.le_of_ble_eq_true rfl) dL_law_768 ?_
                                              refine q_to (ls' := [(0, .ref v0), (1, .ref v1), (2, .ref v2), (3, .ref v3), (4, .int v4)]) (st' := [.int p199.1]) rfl rfl ?_
                                              refine q_aload_n 2 rfl dL_law_771 ?_
                                              refine q_aload_n 0 rfl dL_law_772 ?_
                                              refine q_iload 4 rfl dL_law_773 ?_
                                              refine q_iconst (x := 1) rfl dL_law_775 ?_
                                              refine q_iadd dL_law_776 ?_
                                              refine q_bind hyp (fun x200 e201 hyp => ?_)
                                              refine q_iald dL_law_777 e201 ?_
                                              refine q_bind hyp (fun p202 e204 hyp => ?_)
                                              refine q_callV (as := [.int x200]) (st := [.int p199.1]) kY_X10_again kL_L_105 (okX10_again (l := l) e204) (by decide) rfl (obX10_again e204) (Nat.le_of_ble_eq_true rfl) dL_law_778 ?_
                                              refine q_to (ls' := [(0, .ref v0), (1, .ref v1), (2, .ref v2), (3, .ref v3), (4, .int v4)]) (st' := [.int p202.1, .int p199.1]) rfl rfl ?_
                                              refine q_icmp_eq (tgt := 1423) dL_law_781 (by decide) (fun c203 => ?_) (fun c203 => ?_)
                                              · have hyp := q_pos c203 hyp
                                                refine q_iinc (ls' := [(4, .int (v4 + 7)), (0, .ref v0), (1, .ref v1), (2, .ref v2), (3, .ref v3)]) 4 rfl rfl (by decide) rfl dL_law_1423 ?_
                                                refine q_goto (tgt := 23) dL_law_1426 (by decide) ?_
                                                exact q_sub [1, 2, 3, 4, 0] rfl (ih v0 v1 v2 v3 (v4 + 7) p202.2 hyp)
                                              · have hyp := q_neg c203 hyp
                                                refine q_iconst (x := 0) rfl dL_law_784 ?_
                                                exact q_iretH rfl rfl dL_law_785 hyp
                                            · refine q_ite hyp (fun c206 hyp => ?_) (fun c206 hyp => ?_)
                                              · refine q_tableIn (off := 746) (tgt := 786) dL_law_40 (by rw [c206]; decide) (by rw [c206]; decide) (by rw [c206]; rfl) (by decide) ?_
                                                refine q_aload_n 1 rfl dL_law_786 ?_
                                                refine q_aload_n 0 rfl dL_law_787 ?_
                                                refine q_iload 4 rfl dL_law_788 ?_
                                                refine q_iconst (x := 1) rfl dL_law_790 ?_
                                                refine q_iadd dL_law_791 ?_
                                                refine q_bind hyp (fun x207 e208 hyp => ?_)
                                                refine q_iald dL_law_792 e208 ?_
                                                refine q_bind hyp (fun p209 e215 hyp => ?_)
                                                refine q_callV (as := [.int x207]) (st := []) kY_X9_heals kL_L_106 (okX9_heals (l := l) e215) (by decide) rfl (obX9_heals e215) (Nat.le_of_ble_eq_true rfl) dL_law_793 ?_
                                                refine q_to (ls' := [(0, .ref v0), (1, .ref v1), (2, .ref v2), (3, .ref v3), (4, .int v4)]) (st' := [.int p209.1]) rfl rfl ?_
                                                refine q_aload_n 2 rfl dL_law_796 ?_
                                                refine q_aload_n 0 rfl dL_law_797 ?_
                                                refine q_iload 4 rfl dL_law_798 ?_
                                                refine q_iconst (x := 1) rfl dL_law_800 ?_
                                                refine q_iadd dL_law_801 ?_
                                                refine q_bind hyp (fun x210 e211 hyp => ?_)
                                                refine q_iald dL_law_802 e211 ?_
                                                refine q_bind hyp (fun p212 e214 hyp => ?_)
                                                refine q_callV (as := [.int x210]) (st := [.int p209.1]) kY_X10_heals kL_L_109 (okX10_heals (l := l) e214) (by decide) rfl (obX10_heals e214) (Nat.le_of_ble_eq_true rfl) dL_law_803 ?_
                                                refine q_to (ls' := [(0, .ref v0), (1, .ref v1), (2, .ref v2), (3, .ref v3), (4, .int v4)]) (st' := [.int p212.1, .int p209.1]) rfl rfl ?_
                                                refine q_icmp_eq (tgt := 1423) dL_law_806 (by decide) (fun c213 => ?_) (fun c213 => ?_)
                                                · have hyp := q_pos c213 hyp
                                                  refine q_iinc (ls' := [(4, .int (v4 + 7)), (0, .ref v0), (1, .ref v1), (2, .ref v2), (3, .ref v3)]) 4 rfl rfl (by decide) rfl dL_law_1423 ?_
                                                  refine q_goto (tgt := 23) dL_law_1426 (by decide) ?_
                                                  exact q_sub [1, 2, 3, 4, 0] rfl (ih v0 v1 v2 v3 (v4 + 7) p212.2 hyp)
                                                · have hyp := q_neg c213 hyp
                                                  refine q_iconst (x := 0) rfl dL_law_809 ?_
                                                  exact q_iretH rfl rfl dL_law_810 hyp
                                              · refine q_ite hyp (fun c216 hyp => ?_) (fun c216 hyp => ?_)
                                                · refine q_tableIn (off := 771) (tgt := 811) dL_law_40 (by rw [c216]; decide) (by rw [c216]; decide) (by rw [c216]; rfl) (by decide) ?_
                                                  refine q_aload_n 1 rfl dL_law_811 ?_
                                                  refine q_aload_n 0 rfl dL_law_812 ?_
                                                  refine q_iload 4 rfl dL_law_813 ?_
                                                  refine q_iconst (x := 1) rfl dL_law_815 ?_
                                                  refine q_iadd dL_law_816 ?_
                                                  refine q_bind hyp (fun x217 e218 hyp => ?_)
                                                  refine q_iald dL_law_817 e218 ?_
                                                  refine q_bind hyp (fun p219 e225 hyp => ?_)
                                                  refine q_callV (as := [.int x217]) (st := []) kY_X9_fills kL_L_110 (okX9_fills (l := l) e225) (by decide) rfl (obX9_fills e225) (Nat.le_of_ble_eq_true rfl) dL_law_818 ?_
                                                  refine q_to (ls' := [(0, .ref v0), (1, .ref v1), (2, .ref v2), (3, .ref v3), (4, .int v4)]) (st' := [.int p219.1]) rfl rfl ?_
                                                  refine q_aload_n 2 rfl dL_law_821 ?_
                                                  refine q_aload_n 0 rfl dL_law_822 ?_
                                                  refine q_iload 4 rfl dL_law_823 ?_
                                                  refine q_iconst (x := 1) rfl dL_law_825 ?_
                                                  refine q_iadd dL_law_826 ?_
                                                  refine q_bind hyp (fun x220 e221 hyp => ?_)
                                                  refine q_iald dL_law_827 e221 ?_
                                                  refine q_bind hyp (fun p222 e224 hyp => ?_)
                                                  refine q_callV (as := [.int x220]) (st := [.int p219.1]) kY_X10_fills kL_L_113 (okX10_fills (l := l) e224) (by decide) rfl (obX10_fills e224) (Nat.le_of_ble_eq_true rfl) dL_law_828 ?_
                                                  refine q_to (ls' := [(0, .ref v0), (1, .ref v1), (2, .ref v2), (3, .ref v3), (4, .int v4)]) (st' := [.int p222.1, .int p219.1]) rfl rfl ?_
                                                  refine q_icmp_eq (tgt := 1423) dL_law_831 (by decide) (fun c223 => ?_) (fun c223 => ?_)
                                                  · have hyp := q_pos c223 hyp
                                                    refine q_iinc (ls' := [(4, .int (v4 + 7)), (0, .ref v0), (1, .ref v1), (2, .ref v2), (3, .ref v3)]) 4 rfl rfl (by decide) rfl dL_law_1423 ?_
                                                    refine q_goto (tgt := 23) dL_law_1426 (by decide) ?_
                                                    exact q_sub [1, 2, 3, 4, 0] rfl (ih v0 v1 v2 v3 (v4 + 7) p222.2 hyp)
                                                  · have hyp := q_neg c223 hyp
                                                    refine q_iconst (x := 0) rfl dL_law_834 ?_
                                                    exact q_iretH rfl rfl dL_law_835 hyp
                                                · refine q_ite hyp (fun c226 hyp => ?_) (fun c226 hyp => ?_)
                                                  · refine q_tableIn (off := 796) (tgt := 836) dL_law_40 (by rw [c226]; decide) (by rw [c226]; decide) (by rw [c226]; rfl) (by decide) ?_
                                                    refine q_aload_n 1 rfl dL_law_836 ?_
                                                    refine q_aload_n 0 rfl dL_law_837 ?_
                                                    refine q_iload 4 rfl dL_law_838 ?_
                                                    refine q_iconst (x := 1) rfl dL_law_840 ?_
                                                    refine q_iadd dL_law_841 ?_
                                                    refine q_bind hyp (fun x227 e228 hyp => ?_)
                                                    refine q_iald dL_law_842 e228 ?_
                                                    refine q_bind hyp (fun p229 e235 hyp => ?_)
                                                    refine q_callV (as := [.int x227]) (st := []) kY_X9_dinners kL_L_114 (okX9_dinners (l := l) e235) (by decide) rfl (obX9_dinners e235) (Nat.le_of_ble_eq_true rfl) dL_law_843 ?_
                                                    refine q_to (ls' := [(0, .ref v0), (1, .ref v1), (2, .ref v2), (3, .ref v3), (4, .int v4)]) (st' := [.int p229.1]) rfl rfl ?_
                                                    refine q_aload_n 2 rfl dL_law_846 ?_
                                                    refine q_aload_n 0 rfl dL_law_847 ?_
                                                    refine q_iload 4 rfl dL_law_848 ?_
                                                    refine q_iconst (x := 1) rfl dL_law_850 ?_
                                                    refine q_iadd dL_law_851 ?_
                                                    refine q_bind hyp (fun x230 e231 hyp => ?_)
                                                    refine q_iald dL_law_852 e231 ?_
                                                    refine q_bind hyp (fun p232 e234 hyp => ?_)
                                                    refine q_callV (as := [.int x230]) (st := [.int p229.1]) kY_X10_dinners kL_L_117 (okX10_dinners (l := l) e234) (by decide) rfl (obX10_dinners e234) (Nat.le_of_ble_eq_true rfl) dL_law_853 ?_
                                                    refine q_to (ls' := [(0, .ref v0), (1, .ref v1), (2, .ref v2), (3, .ref v3), (4, .int v4)]) (st' := [.int p232.1, .int p229.1]) rfl rfl ?_
                                                    refine q_icmp_eq (tgt := 1423) dL_law_856 (by decide) (fun c233 => ?_) (fun c233 => ?_)
                                                    · have hyp := q_pos c233 hyp
                                                      refine q_iinc (ls' := [(4, .int (v4 + 7)), (0, .ref v0), (1, .ref v1), (2, .ref v2), (3, .ref v3)]) 4 rfl rfl (by decide) rfl dL_law_1423 ?_
                                                      refine q_goto (tgt := 23) dL_law_1426 (by decide) ?_
                                                      exact q_sub [1, 2, 3, 4, 0] rfl (ih v0 v1 v2 v3 (v4 + 7) p232.2 hyp)
                                                    · have hyp := q_neg c233 hyp
                                                      refine q_iconst (x := 0) rfl dL_law_859 ?_
                                                      exact q_iretH rfl rfl dL_law_860 hyp
                                                  · refine q_ite hyp (fun c236 hyp => ?_) (fun c236 hyp => ?_)
                                                    · refine q_tableIn (off := 821) (tgt := 861) dL_law_40 (by rw [c236]; decide) (by rw [c236]; decide) (by rw [c236]; rfl) (by decide) ?_
                                                      refine q_aload_n 1 rfl dL_law_861 ?_
                                                      refine q_aload_n 0 rfl dL_law_862 ?_
                                                      refine q_iload 4 rfl dL_law_863 ?_
                                                      refine q_iconst (x := 1) rfl dL_law_865 ?_
                                                      refine q_iadd dL_law_866 ?_
                                                      refine q_bind hyp (fun x237 e238 hyp => ?_)
                                                      refine q_iald dL_law_867 e238 ?_
                                                      refine q_bind hyp (fun p239 e245 hyp => ?_)
                                                      refine q_callV (as := [.int x237]) (st := []) kY_X9_causes kL_L_118 (okX9_causes (l := l) e245) (by decide) rfl (obX9_causes e245) (Nat.le_of_ble_eq_true rfl) dL_law_868 ?_
                                                      refine q_to (ls' := [(0, .ref v0), (1, .ref v1), (2, .ref v2), (3, .ref v3), (4, .int v4)]) (st' := [.int p239.1]) rfl rfl ?_
                                                      refine q_aload_n 2 rfl dL_law_871 ?_
                                                      refine q_aload_n 0 rfl dL_law_872 ?_
                                                      refine q_iload 4 rfl dL_law_873 ?_
                                                      refine q_iconst (x := 1) rfl dL_law_875 ?_
                                                      refine q_iadd dL_law_876 ?_
                                                      refine q_bind hyp (fun x240 e241 hyp => ?_)
                                                      refine q_iald dL_law_877 e241 ?_
                                                      refine q_bind hyp (fun p242 e244 hyp => ?_)
                                                      refine q_callV (as := [.int x240]) (st := [.int p239.1]) kY_X10_causes kL_L_121 (okX10_causes (l := l) e244) (by decide) rfl (obX10_causes e244) (Nat.le_of_ble_eq_true rfl) dL_law_878 ?_
                                                      refine q_to (ls' := [(0, .ref v0), (1, .ref v1), (2, .ref v2), (3, .ref v3), (4, .int v4)]) (st' := [.int p242.1, .int p239.1]) rfl rfl ?_
                                                      refine q_icmp_eq (tgt := 1423) dL_law_881 (by decide) (fun c243 => ?_) (fun c243 => ?_)
                                                      · have hyp := q_pos c243 hyp
                                                        refine q_iinc (ls' := [(4, .int (v4 + 7)), (0, .ref v0), (1, .ref v1), (2, .ref v2), (3, .ref v3)]) 4 rfl rfl (by decide) rfl dL_law_1423 ?_
                                                        refine q_goto (tgt := 23) dL_law_1426 (by decide) ?_
                                                        exact q_sub [1, 2, 3, 4, 0] rfl (ih v0 v1 v2 v3 (v4 + 7) p242.2 hyp)
                                                      · have hyp := q_neg c243 hyp
                                                        refine q_iconst (x := 0) rfl dL_law_884 ?_
                                                        exact q_iretH rfl rfl dL_law_885 hyp
                                                    · refine q_ite hyp (fun c246 hyp => ?_) (fun c246 hyp => ?_)
                                                      · refine q_tableIn (off := 846) (tgt := 886) dL_law_40 (by rw [c246]; decide) (by rw [c246]; decide) (by rw [c246]; rfl) (by decide) ?_
                                                        refine q_aload_n 1 rfl dL_law_886 ?_
                                                        refine q_aload_n 0 rfl dL_law_887 ?_
                                                        refine q_iload 4 rfl dL_law_888 ?_
                                                        refine q_iconst (x := 1) rfl dL_law_890 ?_
                                                        refine q_iadd dL_law_891 ?_
                                                        refine q_bind hyp (fun x247 e248 hyp => ?_)
                                                        refine q_iald dL_law_892 e248 ?_
                                                        refine q_bind hyp (fun p249 e255 hyp => ?_)
                                                        refine q_callV (as := [.int x247]) (st := []) kY_X9_fruits kL_L_122 (okX9_fruits (l := l) e255) (by decide) rfl (obX9_fruits e255) (Nat.le_of_ble_eq_true rfl) dL_law_893 ?_
                                                        refine q_to (ls' := [(0, .ref v0), (1, .ref v1), (2, .ref v2), (3, .ref v3), (4, .int v4)]) (st' := [.int p249.1]) rfl rfl ?_
                                                        refine q_aload_n 2 rfl dL_law_896 ?_
                                                        refine q_aload_n 0 rfl dL_law_897 ?_
                                                        refine q_iload 4 rfl dL_law_898 ?_
                                                        refine q_iconst (x := 1) rfl dL_law_900 ?_
                                                        refine q_iadd dL_law_901 ?_
                                                        refine q_bind hyp (fun x250 e251 hyp => ?_)
                                                        refine q_iald dL_law_902 e251 ?_
                                                        refine q_bind hyp (fun p252 e254 hyp => ?_)
                                                        refine q_callV (as := [.int x250]) (st := [.int p249.1]) kY_X10_fruits kL_L_125 (okX10_fruits (l := l) e254) (by decide) rfl (obX10_fruits e254) (Nat.le_of_ble_eq_true rfl) dL_law_903 ?_
                                                        refine q_to (ls' := [(0, .ref v0), (1, .ref v1), (2, .ref v2), (3, .ref v3), (4, .int v4)]) (st' := [.int p252.1, .int p249.1]) rfl rfl ?_
                                                        refine q_icmp_eq (tgt := 1423) dL_law_906 (by decide) (fun c253 => ?_) (fun c253 => ?_)
                                                        · have hyp := q_pos c253 hyp
                                                          refine q_iinc (ls' := [(4, .int (v4 + 7)), (0, .ref v0), (1, .ref v1), (2, .ref v2), (3, .ref v3)]) 4 rfl rfl (by decide) rfl dL_law_1423 ?_
                                                          refine q_goto (tgt := 23) dL_law_1426 (by decide) ?_
                                                          exact q_sub [1, 2, 3, 4, 0] rfl (ih v0 v1 v2 v3 (v4 + 7) p252.2 hyp)
                                                        · have hyp := q_neg c253 hyp
                                                          refine q_iconst (x := 0) rfl dL_law_909 ?_
                                                          exact q_iretH rfl rfl dL_law_910 hyp
                                                      · refine q_ite hyp (fun c256 hyp => ?_) (fun c256 hyp => ?_)
                                                        · refine q_tableIn (off := 871) (tgt := 911) dL_law_40 (by rw [c256]; decide) (by rw [c256]; decide) (by rw [c256]; rfl) (by decide) ?_
                                                          refine q_aload_n 1 rfl dL_law_911 ?_
                                                          refine q_aload_n 0 rfl dL_law_912 ?_
                                                          refine q_iload 4 rfl dL_law_913 ?_
                                                          refine q_iconst (x := 1) rfl dL_law_915 ?_
                                                          refine q_iadd dL_law_916 ?_
                                                          refine q_bind hyp (fun x257 e258 hyp => ?_)
                                                          refine q_iald dL_law_917 e258 ?_
                                                          refine q_aload_n 0 rfl dL_law_918 ?_
                                                          refine q_iload 4 rfl dL_law_919 ?_
                                                          refine q_iconst (x := 2) rfl dL_law_921 ?_
                                                          refine q_iadd dL_law_922 ?_
                                                          refine q_bind hyp (fun x259 e260 hyp => ?_)
                                                          refine q_iald dL_law_923 e260 ?_
                                                          refine q_bind hyp (fun p261 e269 hyp => ?_)
                                                          refine q_callV (as := [.int x257, .int x259]) (st := []) kY_X9_ways kL_L_126 (okX9_ways (l := l) e269) (by decide) rfl (obX9_ways e269) (Nat.le_of_ble_eq_true rfl) dL_law_924 ?_
                                                          refine q_to (ls' := [(0, .ref v0), (1, .ref v1), (2, .ref v2), (3, .ref v3), (4, .int v4)]) (st' := [.int p261.1]) rfl rfl ?_
                                                          refine q_aload_n 2 rfl dL_law_927 ?_
                                                          refine q_aload_n 0 rfl dL_law_928 ?_
                                                          refine q_iload 4 rfl dL_law_929 ?_
                                                          refine q_iconst (x := 1) rfl dL_law_931 ?_
                                                          refine q_iadd dL_law_932 ?_
                                                          refine q_bind hyp (fun x262 e263 hyp => ?_)
                                                          refine q_iald dL_law_933 e263 ?_
                                                          refine q_aload_n 0 rfl dL_law_934 ?_
                                                          refine q_iload 4 rfl dL_law_935 ?_
                                                          refine q_iconst (x := 2) rfl dL_law_937 ?_
                                                          refine q_iadd dL_law_938 ?_
                                                          refine q_bind hyp (fun x264 e265 hyp => ?_)
                                                          refine q_iald dL_law_939 e265 ?_
                                                          refine q_bind hyp (fun p266 e268 hyp => ?_)
                                                          refine q_callV (as := [.int x262, .int x264]) (st := [.int p261.1]) kY_X10_ways kL_L_129 (okX10_ways (l := l) e268) (by decide) rfl (obX10_ways e268) (Nat.le_of_ble_eq_true rfl) dL_law_940 ?_
                                                          refine q_to (ls' := [(0, .ref v0), (1, .ref v1), (2, .ref v2), (3, .ref v3), (4, .int v4)]) (st' := [.int p266.1, .int p261.1]) rfl rfl ?_
                                                          refine q_icmp_eq (tgt := 1423) dL_law_943 (by decide) (fun c267 => ?_) (fun c267 => ?_)
                                                          · have hyp := q_pos c267 hyp
                                                            refine q_iinc (ls' := [(4, .int (v4 + 7)), (0, .ref v0), (1, .ref v1), (2, .ref v2), (3, .ref v3)]) 4 rfl rfl (by decide) rfl dL_law_1423 ?_
                                                            refine q_goto (tgt := 23) dL_law_1426 (by decide) ?_
                                                            exact q_sub [1, 2, 3, 4, 0] rfl (ih v0 v1 v2 v3 (v4 + 7) p266.2 hyp)
                                                          · have hyp := q_neg c267 hyp
                                                            refine q_iconst (x := 0) rfl dL_law_946 ?_
                                                            exact q_iretH rfl rfl dL_law_947 hyp
                                                        · refine q_ite hyp (fun c270 hyp => ?_) (fun c270 hyp => ?_)
                                                          · refine q_tableIn (off := 908) (tgt := 948) dL_law_40 (by rw [c270]; decide) (by rw [c270]; decide) (by rw [c270]; rfl) (by decide) ?_
                                                            refine q_aload_n 1 rfl dL_law_948 ?_
                                                            refine q_bind hyp (fun p271 e275 hyp => ?_)
                                                            refine q_callV (as := []) (st := []) kY_X9_story kL_L_130 (okX9_story (l := l) e275) (by decide) rfl (obX9_story e275) (Nat.le_of_ble_eq_true rfl) dL_law_949 ?_
                                                            refine q_to (ls' := [(0, .ref v0), (1, .ref v1), (2, .ref v2), (3, .ref v3), (4, .int v4)]) (st' := [.int p271.1]) rfl rfl ?_
                                                            refine q_aload_n 2 rfl dL_law_952 ?_
                                                            refine q_bind hyp (fun p272 e274 hyp => ?_)
                                                            refine q_callV (as := []) (st := [.int p271.1]) kY_X10_story kL_L_133 (okX10_story (l := l) e274) (by decide) rfl (obX10_story e274) (Nat.le_of_ble_eq_true rfl) dL_law_953 ?_
                                                            refine q_to (ls' := [(0, .ref v0), (1, .ref v1), (2, .ref v2), (3, .ref v3), (4, .int v4)]) (st' := [.int p272.1, .int p271.1]) rfl rfl ?_
                                                            refine q_icmp_eq (tgt := 1423) dL_law_956 (by decide) (fun c273 => ?_) (fun c273 => ?_)
                                                            · have hyp := q_pos c273 hyp
                                                              refine q_iinc (ls' := [(4, .int (v4 + 7)), (0, .ref v0), (1, .ref v1), (2, .ref v2), (3, .ref v3)]) 4 rfl rfl (by decide) rfl dL_law_1423 ?_
                                                              refine q_goto (tgt := 23) dL_law_1426 (by decide) ?_
                                                              exact q_sub [1, 2, 3, 4, 0] rfl (ih v0 v1 v2 v3 (v4 + 7) p272.2 hyp)
                                                            · have hyp := q_neg c273 hyp
                                                              refine q_iconst (x := 0) rfl dL_law_959 ?_
                                                              exact q_iretH rfl rfl dL_law_960 hyp
                                                          · refine q_ite hyp (fun c276 hyp => ?_) (fun c276 hyp => ?_)
                                                            · refine q_tableIn (off := 921) (tgt := 961) dL_law_40 (by rw [c276]; decide) (by rw [c276]; decide) (by rw [c276]; rfl) (by decide) ?_
                                                              refine q_aload_n 1 rfl dL_law_961 ?_
                                                              refine q_bind hyp (fun p277 e281 hyp => ?_)
                                                              refine q_callV (as := []) (st := []) kY_X9_roots kL_L_134 (okX9_roots (l := l) e281) (by decide) rfl (obX9_roots e281) (Nat.le_of_ble_eq_true rfl) dL_law_962 ?_
                                                              refine q_to (ls' := [(0, .ref v0), (1, .ref v1), (2, .ref v2), (3, .ref v3), (4, .int v4)]) (st' := [.int p277.1]) rfl rfl ?_
                                                              refine q_aload_n 2 rfl dL_law_965 ?_
                                                              refine q_bind hyp (fun p278 e280 hyp => ?_)
                                                              refine q_callV (as := []) (st := [.int p277.1]) kY_X10_roots kL_L_137 (okX10_roots (l := l) e280) (by decide) rfl (obX10_roots e280) (Nat.le_of_ble_eq_true rfl) dL_law_966 ?_
                                                              refine q_to (ls' := [(0, .ref v0), (1, .ref v1), (2, .ref v2), (3, .ref v3), (4, .int v4)]) (st' := [.int p278.1, .int p277.1]) rfl rfl ?_
                                                              refine q_icmp_eq (tgt := 1423) dL_law_969 (by decide) (fun c279 => ?_) (fun c279 => ?_)
                                                              · have hyp := q_pos c279 hyp
                                                                refine q_iinc (ls' := [(4, .int (v4 + 7)), (0, .ref v0), (1, .ref v1), (2, .ref v2), (3, .ref v3)]) 4 rfl rfl (by decide) rfl dL_law_1423 ?_
                                                                refine q_goto (tgt := 23) dL_law_1426 (by decide) ?_
                                                                exact q_sub [1, 2, 3, 4, 0] rfl (ih v0 v1 v2 v3 (v4 + 7) p278.2 hyp)
                                                              · have hyp := q_neg c279 hyp
                                                                refine q_iconst (x := 0) rfl dL_law_972 ?_
                                                                exact q_iretH rfl rfl dL_law_973 hyp
                                                            · refine q_ite hyp (fun c282 hyp => ?_) (fun c282 hyp => ?_)
                                                              · refine q_tableIn (off := 934) (tgt := 974) dL_law_40 (by rw [c282]; decide) (by rw [c282]; decide) (by rw [c282]; rfl) (by decide) ?_
                                                                refine q_aload_n 1 rfl dL_law_974 ?_
                                                                refine q_aload_n 0 rfl dL_law_975 ?_
                                                                refine q_iload 4 rfl dL_law_976 ?_
                                                                refine q_iconst (x := 1) rfl dL_law_978 ?_
                                                                refine q_iadd dL_law_979 ?_
                                                                refine q_bind hyp (fun x283 e284 hyp => ?_)
                                                                refine q_iald dL_law_980 e284 ?_
                                                                refine q_bind hyp (fun p285 e291 hyp => ?_)
                                                                refine q_callV (as := [.int x283]) (st := []) kY_X9_elders kL_L_138 (okX9_elders (l := l) e291) (by decide) rfl (obX9_elders e291) (Nat.le_of_ble_eq_true rfl) dL_law_981 ?_
                                                                refine q_to (ls' := [(0, .ref v0), (1, .ref v1), (2, .ref v2), (3, .ref v3), (4, .int v4)]) (st' := [.int p285.1]) rfl rfl ?_
                                                                refine q_aload_n 2 rfl dL_law_984 ?_
                                                                refine q_aload_n 0 rfl dL_law_985 ?_
                                                                refine q_iload 4 rfl dL_law_986 ?_
                                                                refine q_iconst (x := 1) rfl dL_law_988 ?_
                                                                refine q_iadd dL_law_989 ?_
                                                                refine q_bind hyp (fun x286 e287 hyp => ?_)
                                                                refine q_iald dL_law_990 e287 ?_
                                                                refine q_bind hyp (fun p288 e290 hyp => ?_)
                                                                refine q_callV (as := [.int x286]) (st := [.int p285.1]) kY_X10_elders kL_L_141 (okX10_elders (l := l) e290) (by decide) rfl (obX10_elders e290) (Nat.le_of_ble_eq_true rfl) dL_law_991 ?_
                                                                refine q_to (ls' := [(0, .ref v0), (1, .ref v1), (2, .ref v2), (3, .ref v3), (4, .int v4)]) (st' := [.int p288.1, .int p285.1]) rfl rfl ?_
                                                                refine q_icmp_eq (tgt := 1423) dL_law_994 (by decide) (fun c289 => ?_) (fun c289 => ?_)
                                                                · have hyp := q_pos c289 hyp
                                                                  refine q_iinc (ls' := [(4, .int (v4 + 7)), (0, .ref v0), (1, .ref v1), (2, .ref v2), (3, .ref v3)]) 4 rfl rfl (by decide) rfl dL_law_1423 ?_
                                                                  refine q_goto (tgt := 23) dL_law_1426 (by decide) ?_
                                                                  exact q_sub [1, 2, 3, 4, 0] rfl (ih v0 v1 v2 v3 (v4 + 7) p288.2 hyp)
                                                                · have hyp := q_neg c289 hyp
                                                                  refine q_iconst (x := 0) rfl dL_law_997 ?_
                                                                  exact q_iretH rfl rfl dL_law_998 hyp
                                                              · refine q_ite hyp (fun c292 hyp => ?_) (fun c292 hyp => ?_)
                                                                · refine q_tableIn (off := 959) (tgt := 999) dL_law_40 (by rw [c292]; decide) (by rw [c292]; decide) (by rw [c292]; rfl) (by decide) ?_
                                                                  refine q_aload_n 1 rfl dL_law_999 ?_
                                                                  refine q_bind hyp (fun p293 e297 hyp => ?_)
                                                                  refine q_callV (as := []) (st := []) kY_X9_redeems kL_L_142 (okX9_redeems (l := l) e297) (by decide) rfl (obX9_redeems e297) (Nat.le_of_ble_eq_true rfl) dL_law_1000 ?_
                                                                  refine q_to (ls' := [(0, .ref v0), (1, .ref v1), (2, .ref v2), (3, .ref v3), (4, .int v4)]) (st' := [.int p293.1]) rfl rfl ?_
                                                                  refine q_aload_n 2 rfl dL_law_1003 ?_
                                                                  refine q_bind hyp (fun p294 e296 hyp => ?_)
                                                                  refine q_callV (as := []) (st := [.int p293.1]) kY_X10_redeems kL_L_145 (okX10_redeems (l := l) e296) (by decide) rfl (obX10_redeems e296) (Nat.le_of_ble_eq_true rfl) dL_law_1004 ?_
                                                                  refine q_to (ls' := [(0, .ref v0), (1, .ref v1), (2, .ref v2), (3, .ref v3), (4, .int v4)]) (st' := [.int p294.1, .int p293.1]) rfl rfl ?_
                                                                  refine q_icmp_eq (tgt := 1423) dL_law_1007 (by decide) (fun c295 => ?_) (fun c295 => ?_)
                                                                  · have hyp := q_pos c295 hyp
                                                                    refine q_iinc (ls' := [(4, .int (v4 + 7)), (0, .ref v0), (1, .ref v1), (2, .ref v2), (3, .ref v3)]) 4 rfl rfl (by decide) rfl dL_law_1423 ?_
                                                                    refine q_goto (tgt := 23) dL_law_1426 (by decide) ?_
                                                                    exact q_sub [1, 2, 3, 4, 0] rfl (ih v0 v1 v2 v3 (v4 + 7) p294.2 hyp)
                                                                  · have hyp := q_neg c295 hyp
                                                                    refine q_iconst (x := 0) rfl dL_law_1010 ?_
                                                                    exact q_iretH rfl rfl dL_law_1011 hyp
                                                                · refine q_ite hyp (fun c298 hyp => ?_) (fun c298 hyp => ?_)
                                                                  · refine q_tableIn (off := 972) (tgt := 1012) dL_law_40 (by rw [c298]; decide) (by rw [c298]; decide) (by rw [c298]; rfl) (by decide) ?_
                                                                    refine q_aload_n 1 rfl dL_law_1012 ?_
                                                                    refine q_bind hyp (fun p299 e303 hyp => ?_)
                                                                    refine q_callV (as := []) (st := []) kY_X9_gap kL_L_146 (okX9_gap (l := l) e303) (by decide) rfl (obX9_gap e303) (Nat.le_of_ble_eq_true rfl) dL_law_1013 ?_
                                                                    refine q_to (ls' := [(0, .ref v0), (1, .ref v1), (2, .ref v2), (3, .ref v3), (4, .int v4)]) (st' := [.int p299.1]) rfl rfl ?_
                                                                    refine q_aload_n 2 rfl dL_law_1016 ?_
                                                                    refine q_bind hyp (fun p300 e302 hyp => ?_)
                                                                    refine q_callV (as := []) (st := [.int p299.1]) kY_X10_gap kL_L_149 (okX10_gap (l := l) e302) (by decide) rfl (obX10_gap e302) (Nat.le_of_ble_eq_true rfl) dL_law_1017 ?_
                                                                    refine q_to (ls' := [(0, .ref v0), (1, .ref v1), (2, .ref v2), (3, .ref v3), (4, .int v4)]) (st' := [.int p300.1, .int p299.1]) rfl rfl ?_
                                                                    refine q_icmp_eq (tgt := 1423) dL_law_1020 (by decide) (fun c301 => ?_) (fun c301 => ?_)
                                                                    · have hyp := q_pos c301 hyp
                                                                      refine q_iinc (ls' := [(4, .int (v4 + 7)), (0, .ref v0), (1, .ref v1), (2, .ref v2), (3, .ref v3)]) 4 rfl rfl (by decide) rfl dL_law_1423 ?_
                                                                      refine q_goto (tgt := 23) dL_law_1426 (by decide) ?_
                                                                      exact q_sub [1, 2, 3, 4, 0] rfl (ih v0 v1 v2 v3 (v4 + 7) p300.2 hyp)
                                                                    · have hyp := q_neg c301 hyp
                                                                      refine q_iconst (x := 0) rfl dL_law_1023 ?_
                                                                      exact q_iretH rfl rfl dL_law_1024 hyp
                                                                  · refine q_ite hyp (fun c304 hyp => ?_) (fun c304 hyp => ?_)
                                                                    · refine q_tableIn (off := 985) (tgt := 1025) dL_law_40 (by rw [c304]; decide) (by rw [c304]; decide) (by rw [c304]; rfl) (by decide) ?_
                                                                      refine q_aload_n 1 rfl dL_law_1025 ?_
                                                                      refine q_bind hyp (fun p305 e309 hyp => ?_)
                                                                      refine q_callV (as := []) (st := []) kY_X9_bare kL_L_150 (okX9_bare (l := l) e309) (by decide) rfl (obX9_bare e309) (Nat.le_of_ble_eq_true rfl) dL_law_1026 ?_
                                                                      refine q_to (ls' := [(0, .ref v0), (1, .ref v1), (2, .ref v2), (3, .ref v3), (4, .int v4)]) (st' := [.int p305.1]) rfl rfl ?_
                                                                      refine q_aload_n 2 rfl dL_law_1029 ?_
                                                                      refine q_bind hyp (fun p306 e308 hyp => ?_)
                                                                      refine q_callV (as := []) (st := [.int p305.1]) kY_X10_bare kL_L_153 (okX10_bare (l := l) e308) (by decide) rfl (obX10_bare e308) (Nat.le_of_ble_eq_true rfl) dL_law_1030 ?_
                                                                      refine q_to (ls' := [(0, .ref v0), (1, .ref v1), (2, .ref v2), (3, .ref v3), (4, .int v4)]) (st' := [.int p306.1, .int p305.1]) rfl rfl ?_
                                                                      refine q_icmp_eq (tgt := 1423) dL_law_1033 (by decide) (fun c307 => ?_) (fun c307 => ?_)
                                                                      · have hyp := q_pos c307 hyp
                                                                        refine q_iinc (ls' := [(4, .int (v4 + 7)), (0, .ref v0), (1, .ref v1), (2, .ref v2), (3, .ref v3)]) 4 rfl rfl (by decide) rfl dL_law_1423 ?_
                                                                        refine q_goto (tgt := 23) dL_law_1426 (by decide) ?_
                                                                        exact q_sub [1, 2, 3, 4, 0] rfl (ih v0 v1 v2 v3 (v4 + 7) p306.2 hyp)
                                                                      · have hyp := q_neg c307 hyp
                                                                        refine q_iconst (x := 0) rfl dL_law_1036 ?_
                                                                        exact q_iretH rfl rfl dL_law_1037 hyp
                                                                    · refine q_ite hyp (fun c310 hyp => ?_) (fun c310 hyp => ?_)
                                                                      · refine q_tableIn (off := 998) (tgt := 1038) dL_law_40 (by rw [c310]; decide) (by rw [c310]; decide) (by rw [c310]; rfl) (by decide) ?_
                                                                        refine q_aload_n 1 rfl dL_law_1038 ?_
                                                                        refine q_bind hyp (fun p311 e315 hyp => ?_)
                                                                        refine q_callV (as := []) (st := []) kY_X9_sourest kL_L_154 (okX9_sourest (l := l) e315) (by decide) rfl (obX9_sourest e315) (Nat.le_of_ble_eq_true rfl) dL_law_1039 ?_
                                                                        refine q_to (ls' := [(0, .ref v0), (1, .ref v1), (2, .ref v2), (3, .ref v3), (4, .int v4)]) (st' := [.int p311.1]) rfl rfl ?_
                                                                        refine q_aload_n 2 rfl dL_law_1042 ?_
                                                                        refine q_bind hyp (fun p312 e314 hyp => ?_)
                                                                        refine q_callV (as := []) (st := [.int p311.1]) kY_X10_sourest kL_L_157 (okX10_sourest (l := l) e314) (by decide) rfl (obX10_sourest e314) (Nat.le_of_ble_eq_true rfl) dL_law_1043 ?_
                                                                        refine q_to (ls' := [(0, .ref v0), (1, .ref v1), (2, .ref v2), (3, .ref v3), (4, .int v4)]) (st' := [.int p312.1, .int p311.1]) rfl rfl ?_
                                                                        refine q_icmp_eq (tgt := 1423) dL_law_1046 (by decide) (fun c313 => ?_) (fun c313 => ?_)
                                                                        · have hyp := q_pos c313 hyp
                                                                          refine q_iinc (ls' := [(4, .int (v4 + 7)), (0, .ref v0), (1, .ref v1), (2, .ref v2), (3, .ref v3)]) 4 rfl rfl (by decide) rfl dL_law_1423 ?_
                                                                          refine q_goto (tgt := 23) dL_law_1426 (by decide) ?_
                                                                          exact q_sub [1, 2, 3, 4, 0] rfl (ih v0 v1 v2 v3 (v4 + 7) p312.2 hyp)
                                                                        · have hyp := q_neg c313 hyp
                                                                          refine q_iconst (x := 0) rfl dL_law_1049 ?_
                                                                          exact q_iretH rfl rfl dL_law_1050 hyp
                                                                      · refine q_ite hyp (fun c316 hyp => ?_) (fun c316 hyp => ?_)
                                                                        · refine q_tableIn (off := 1011) (tgt := 1051) dL_law_40 (by rw [c316]; decide) (by rw [c316]; decide) (by rw [c316]; rfl) (by decide) ?_
                                                                          refine q_aload_n 1 rfl dL_law_1051 ?_
                                                                          refine q_bind hyp (fun p317 e321 hyp => ?_)
                                                                          refine q_callV (as := []) (st := []) kY_X9_lost kL_L_158 (okX9_lost (l := l) e321) (by decide) rfl (obX9_lost e321) (Nat.le_of_ble_eq_true rfl) dL_law_1052 ?_
                                                                          refine q_to (ls' := [(0, .ref v0), (1, .ref v1), (2, .ref v2), (3, .ref v3), (4, .int v4)]) (st' := [.int p317.1]) rfl rfl ?_
                                                                          refine q_aload_n 2 rfl dL_law_1055 ?_
                                                                          refine q_bind hyp (fun p318 e320 hyp => ?_)
                                                                          refine q_callV (as := []) (st := [.int p317.1]) kY_X10_lost kL_L_161 (okX10_lost (l := l) e320) (by decide) rfl (obX10_lost e320) (Nat.le_of_ble_eq_true rfl) dL_law_1056 ?_
                                                                          refine q_to (ls' := [(0, .ref v0), (1, .ref v1), (2, .ref v2), (3, .ref v3), (4, .int v4)]) (st' := [.int p318.1, .int p317.1]) rfl rfl ?_
                                                                          refine q_icmp_eq (tgt := 1423) dL_law_1059 (by decide) (fun c319 => ?_) (fun c319 => ?_)
                                                                          · have hyp := q_pos c319 hyp
                                                                            refine q_iinc (ls' := [(4, .int (v4 + 7)), (0, .ref v0), (1, .ref v1), (2, .ref v2), (3, .ref v3)]) 4 rfl rfl (by decide) rfl dL_law_1423 ?_
                                                                            refine q_goto (tgt := 23) dL_law_1426 (by decide) ?_
                                                                            exact q_sub [1, 2, 3, 4, 0] rfl (ih v0 v1 v2 v3 (v4 + 7) p318.2 hyp)
                                                                          · have hyp := q_neg c319 hyp
                                                                            refine q_iconst (x := 0) rfl dL_law_1062 ?_
                                                                            exact q_iretH rfl rfl dL_law_1063 hyp
                                                                        · refine q_ite hyp (fun c322 hyp => ?_) (fun c322 hyp => ?_)
                                                                          · refine q_tableIn (off := 1024) (tgt := 1064) dL_law_40 (by rw [c322]; decide) (by rw [c322]; decide) (by rw [c322]; rfl) (by decide) ?_
                                                                            refine q_aload_n 1 rfl dL_law_1064 ?_
                                                                            refine q_aload_n 0 rfl dL_law_1065 ?_
                                                                            refine q_iload 4 rfl dL_law_1066 ?_
                                                                            refine q_iconst (x := 1) rfl dL_law_1068 ?_
                                                                            refine q_iadd dL_law_1069 ?_
                                                                            refine q_bind hyp (fun x323 e324 hyp => ?_)
                                                                            refine q_iald dL_law_1070 e324 ?_
                                                                            refine q_aload_n 0 rfl dL_law_1071 ?_
                                                                            refine q_iload 4 rfl dL_law_1072 ?_
                                                                            refine q_iconst (x := 2) rfl dL_law_1074 ?_
                                                                            refine q_iadd dL_law_1075 ?_
                                                                            refine q_bind hyp (fun x325 e326 hyp => ?_)
                                                                            refine q_iald dL_law_1076 e326 ?_
                                                                            refine q_aload_n 0 rfl dL_law_1077 ?_
                                                                            refine q_iload 4 rfl dL_law_1078 ?_
                                                                            refine q_iconst (x := 3) rfl dL_law_1080 ?_
                                                                            refine q_iadd dL_law_1081 ?_
                                                                            refine q_bind hyp (fun x327 e328 hyp => ?_)
                                                                            refine q_iald dL_law_1082 e328 ?_
                                                                            refine q_if_eq (tgt := 1090) dL_law_1083 (by decide) (fun c329 => ?_) (fun c329 => ?_)
                                                                            · have hyp := q_pos c329 hyp
                                                                              refine q_iconst (x := 0) rfl dL_law_1090 ?_
                                                                              exact q_sub [0, 1, 2, 3, 4] rfl (okL_law_b1091 hfl ih hyp)
                                                                            · have hyp := q_neg c329 hyp
                                                                              refine q_iconst (x := 1) rfl dL_law_1086 ?_
                                                                              refine q_goto (tgt := 1091) dL_law_1087 (by decide) ?_
                                                                              exact q_sub [0, 1, 2, 3, 4] rfl (okL_law_b1091 hfl ih hyp)
                                                                          · refine q_ite hyp (fun c330 hyp => ?_) (fun c330 hyp => ?_)
                                                                            · refine q_tableIn (off := 1089) (tgt := 1129) dL_law_40 (by rw [c330]; decide) (by rw [c330]; decide) (by rw [c330]; rfl) (by decide) ?_
                                                                              refine q_aload_n 1 rfl dL_law_1129 ?_
                                                                              refine q_bind hyp (fun p331 e335 hyp => ?_)
                                                                              refine q_callV (as := []) (st := []) kY_X9_who kL_L_167 (okX9_who (l := l) e335) (by decide) rfl (obX9_who e335) (Nat.le_of_ble_eq_true rfl) dL_law_1130 ?_
                                                                              refine q_to (ls' := [(0, .ref v0), (1, .ref v1), (2, .ref v2), (3, .ref v3), (4, .int v4)]) (st' := [.int p331.1]) rfl rfl ?_
                                                                              refine q_aload_n 2 rfl dL_law_1133 ?_
                                                                              refine q_bind hyp (fun p332 e334 hyp => ?_)
                                                                              refine q_callV (as := []) (st := [.int p331.1]) kY_X10_who kL_L_170 (okX10_who (l := l) e334) (by decide) rfl (obX10_who e334) (Nat.le_of_ble_eq_true rfl) dL_law_1134 ?_
                                                                              refine q_to (ls' := [(0, .ref v0), (1, .ref v1), (2, .ref v2), (3, .ref v3), (4, .int v4)]) (st' := [.int p332.1, .int p331.1]) rfl rfl ?_
                                                                              refine q_icmp_eq (tgt := 1423) dL_law_1137 (by decide) (fun c333 => ?_) (fun c333 => ?_)
                                                                              · have hyp := q_pos c333 hyp
                                                                                refine q_iinc (ls' := [(4, .int (v4 + 7)), (0, .ref v0), (1, .ref v1), (2, .ref v2), (3, .ref v3)]) 4 rfl rfl (by decide) rfl dL_law_1423 ?_
                                                                                refine q_goto (tgt := 23) dL_law_1426 (by decide) ?_
                                                                                exact q_sub [1, 2, 3, 4, 0] rfl (ih v0 v1 v2 v3 (v4 + 7) p332.2 hyp)
                                                                              · have hyp := q_neg c333 hyp
                                                                                refine q_iconst (x := 0) rfl dL_law_1140 ?_
                                                                                exact q_iretH rfl rfl dL_law_1141 hyp
                                                                            · refine q_ite hyp (fun c336 hyp => ?_) (fun c336 hyp => ?_)
                                                                              · refine q_tableIn (off := 1102) (tgt := 1142) dL_law_40 (by rw [c336]; decide) (by rw [c336]; decide) (by rw [c336]; rfl) (by decide) ?_
                                                                                refine q_aload_n 1 rfl dL_law_1142 ?_
                                                                                refine q_bind hyp (fun p337 e341 hyp => ?_)
                                                                                refine q_callV (as := []) (st := []) kY_X9_taste kL_L_171 (okX9_taste (l := l) e341) (by decide) rfl (obX9_taste e341) (Nat.le_of_ble_eq_true rfl) dL_law_1143 ?_
                                                                                refine q_to (ls' := [(0, .ref v0), (1, .ref v1), (2, .ref v2), (3, .ref v3), (4, .int v4)]) (st' := [.int p337.1]) rfl rfl ?_
                                                                                refine q_aload_n 2 rfl dL_law_1146 ?_
                                                                                refine q_bind hyp (fun p338 e340 hyp => ?_)
                                                                                refine q_callV (as := []) (st := [.int p337.1]) kY_X10_taste kL_L_174 (okX10_taste (l := l) e340) (by decide) rfl (obX10_taste e340) (Nat.le_of_ble_eq_true rfl) dL_law_1147 ?_
                                                                                refine q_to (ls' := [(0, .ref v0), (1, .ref v1), (2, .ref v2), (3, .ref v3), (4, .int v4)]) (st' := [.int p338.1, .int p337.1]) rfl rfl ?_
                                                                                refine q_icmp_eq (tgt := 1423) dL_law_1150 (by decide) (fun c339 => ?_) (fun c339 => ?_)
                                                                                · have hyp := q_pos c339 hyp
                                                                                  refine q_iinc (ls' := [(4, .int (v4 + 7)), (0, .ref v0), (1, .ref v1), (2, .ref v2), (3, .ref v3)]) 4 rfl rfl (by decide) rfl dL_law_1423 ?_
                                                                                  refine q_goto (tgt := 23) dL_law_1426 (by decide) ?_
                                                                                  exact q_sub [1, 2, 3, 4, 0] rfl (ih v0 v1 v2 v3 (v4 + 7) p338.2 hyp)
                                                                                · have hyp := q_neg c339 hyp
                                                                                  refine q_iconst (x := 0) rfl dL_law_1153 ?_
                                                                                  exact q_iretH rfl rfl dL_law_1154 hyp
                                                                              · refine q_ite hyp (fun c342 hyp => ?_) (fun c342 hyp => ?_)
                                                                                · refine q_tableIn (off := 1115) (tgt := 1155) dL_law_40 (by rw [c342]; decide) (by rw [c342]; decide) (by rw [c342]; rfl) (by decide) ?_
                                                                                  refine q_aload_n 1 rfl dL_law_1155 ?_
                                                                                  refine q_aload_n 0 rfl dL_law_1156 ?_
                                                                                  refine q_iload 4 rfl dL_law_1157 ?_
                                                                                  refine q_iconst (x := 1) rfl dL_law_1159 ?_
                                                                                  refine q_iadd dL_law_1160 ?_
                                                                                  refine q_bind hyp (fun x343 e344 hyp => ?_)
                                                                                  refine q_iald dL_law_1161 e344 ?_
                                                                                  refine q_aload_n 0 rfl dL_law_1162 ?_
                                                                                  refine q_iload 4 rfl dL_law_1163 ?_
                                                                                  refine q_iconst (x := 2) rfl dL_law_1165 ?_
                                                                                  refine q_iadd dL_law_1166 ?_
                                                                                  refine q_bind hyp (fun x345 e346 hyp => ?_)
                                                                                  refine q_iald dL_law_1167 e346 ?_
                                                                                  refine q_aload_n 0 rfl dL_law_1168 ?_
                                                                                  refine q_iload 4 rfl dL_law_1169 ?_
                                                                                  refine q_iconst (x := 3) rfl dL_law_1171 ?_
                                                                                  refine q_iadd dL_law_1172 ?_
                                                                                  refine q_bind hyp (fun x347 e348 hyp => ?_)
                                                                                  refine q_iald dL_law_1173 e348 ?_
                                                                                  refine q_bind hyp (fun p349 e359 hyp => ?_)
                                                                                  refine q_callV (as := [.int x343, .int x345, .int x347]) (st := []) kY_X9_chance kL_L_175 (okX9_chance (l := l) e359) (by decide) rfl (obX9_chance e359) (Nat.le_of_ble_eq_true rfl) dL_law_1174 ?_
                                                                                  refine q_to (ls' := [(0, .ref v0), (1, .ref v1), (2, .ref v2), (3, .ref v3), (4, .int v4)]) (st' := [.int p349.1]) rfl rfl ?_
                                                                                  refine q_aload_n 2 rfl dL_law_1177 ?_
                                                                                  refine q_aload_n 0 rfl dL_law_1178 ?_
                                                                                  refine q_iload 4 rfl dL_law_1179 ?_
                                                                                  refine q_iconst (x := 1) rfl dL_law_1181 ?_
                                                                                  refine q_iadd dL_law_1182 ?_
                                                                                  refine q_bind hyp (fun x350 e351 hyp => ?_)
                                                                                  refine q_iald dL_law_1183 e351 ?_
                                                                                  refine q_aload_n 0 rfl dL_law_1184 ?_
                                                                                  refine q_iload 4 rfl dL_law_1185 ?_
                                                                                  refine q_iconst (x := 2) rfl dL_law_1187 ?_
                                                                                  refine q_iadd dL_law_1188 ?_
                                                                                  refine q_bind hyp (fun x352 e353 hyp => ?_)
                                                                                  refine q_iald dL_law_1189 e353 ?_
                                                                                  refine q_aload_n 0 rfl dL_law_1190 ?_
                                                                                  refine q_iload 4 rfl dL_law_1191 ?_
                                                                                  refine q_iconst (x := 3) rfl dL_law_1193 ?_
                                                                                  refine q_iadd dL_law_1194 ?_
                                                                                  refine q_bind hyp (fun x354 e355 hyp => ?_)
                                                                                  refine q_iald dL_law_1195 e355 ?_
                                                                                  refine q_bind hyp (fun p356 e358 hyp => ?_)
                                                                                  refine q_callV (as := [.int x350, .int x352, .int x354]) (st := [.int p349.1]) kY_X10_chance kL_L_179 (okX10_chance (l := l) e358) (by decide) rfl (obX10_chance e358) (Nat.le_of_ble_eq_true rfl) dL_law_1196 ?_
                                                                                  refine q_to (ls' := [(0, .ref v0), (1, .ref v1), (2, .ref v2), (3, .ref v3), (4, .int v4)]) (st' := [.int p356.1, .int p349.1]) rfl rfl ?_
                                                                                  refine q_icmp_eq (tgt := 1423) dL_law_1199 (by decide) (fun c357 => ?_) (fun c357 => ?_)
                                                                                  · have hyp := q_pos c357 hyp
                                                                                    refine q_iinc (ls' := [(4, .int (v4 + 7)), (0, .ref v0), (1, .ref v1), (2, .ref v2), (3, .ref v3)]) 4 rfl rfl (by decide) rfl dL_law_1423 ?_
                                                                                    refine q_goto (tgt := 23) dL_law_1426 (by decide) ?_
                                                                                    exact q_sub [1, 2, 3, 4, 0] rfl (ih v0 v1 v2 v3 (v4 + 7) p356.2 hyp)
                                                                                  · have hyp := q_neg c357 hyp
                                                                                    refine q_iconst (x := 0) rfl dL_law_1202 ?_
                                                                                    exact q_iretH rfl rfl dL_law_1203 hyp
                                                                                · refine q_ite hyp (fun c360 hyp => ?_) (fun c360 hyp => ?_)
                                                                                  · refine q_tableIn (off := 1164) (tgt := 1204) dL_law_40 (by rw [c360]; decide) (by rw [c360]; decide) (by rw [c360]; rfl) (by decide) ?_
                                                                                    refine q_aload_n 1 rfl dL_law_1204 ?_
                                                                                    refine q_aload_n 0 rfl dL_law_1205 ?_
                                                                                    refine q_iload 4 rfl dL_law_1206 ?_
                                                                                    refine q_iconst (x := 1) rfl dL_law_1208 ?_
                                                                                    refine q_iadd dL_law_1209 ?_
                                                                                    refine q_bind hyp (fun x361 e362 hyp => ?_)
                                                                                    refine q_iald dL_law_1210 e362 ?_
                                                                                    refine q_aload_n 0 rfl dL_law_1211 ?_
                                                                                    refine q_iload 4 rfl dL_law_1212 ?_
                                                                                    refine q_iconst (x := 2) rfl dL_law_1214 ?_
                                                                                    refine q_iadd dL_law_1215 ?_
                                                                                    refine q_bind hyp (fun x363 e364 hyp => ?_)
                                                                                    refine q_iald dL_law_1216 e364 ?_
                                                                                    refine q_aload_n 0 rfl dL_law_1217 ?_
                                                                                    refine q_iload 4 rfl dL_law_1218 ?_
                                                                                    refine q_iconst (x := 3) rfl dL_law_1220 ?_
                                                                                    refine q_iadd dL_law_1221 ?_
                                                                                    refine q_bind hyp (fun x365 e366 hyp => ?_)
                                                                                    refine q_iald dL_law_1222 e366 ?_
                                                                                    refine q_aload_n 0 rfl dL_law_1223 ?_
                                                                                    refine q_iload 4 rfl dL_law_1224 ?_
                                                                                    refine q_iconst (x := 4) rfl dL_law_1226 ?_
                                                                                    refine q_iadd dL_law_1227 ?_
                                                                                    refine q_bind hyp (fun x367 e368 hyp => ?_)
                                                                                    refine q_iald dL_law_1228 e368 ?_
                                                                                    refine q_aload_n 3 rfl dL_law_1229 ?_
                                                                                    refine q_bind hyp (fun p369 e387 hyp => ?_)
                                                                                    refine q_callSW (as := [.ref v1, .int x361, .int x363, .int x365, .int x367, .ref v3]) (st := []) (q_p4 223 rfl rfl) (okL_rests hfl e387) (by decide) rfl (Nat.le_of_ble_eq_true rfl) dL_law_1230 ?_
                                                                                    refine q_to (ls' := [(0, .ref v0), (1, .ref v1), (2, .ref v2), (3, .ref v3), (4, .int v4)]) (st' := [.int p369.1]) rfl rfl ?_
                                                                                    refine q_istore (ls' := [(5, .int p369.1), (0, .ref v0), (1, .ref v1), (2, .ref v2), (3, .ref v3), (4, .int v4)]) (by decide) rfl dL_law_1233 ?_
                                                                                    refine q_aload_n 3 rfl dL_law_1235 ?_
                                                                                    refine q_aload_n 1 rfl dL_law_1236 ?_
                                                                                    refine q_iload 5 rfl dL_law_1237 ?_
                                                                                    refine q_iconst (x := 1) rfl dL_law_1239 ?_
                                                                                    refine q_iadd dL_law_1240 ?_
                                                                                    refine q_bind hyp (fun x370 e371 hyp => ?_)
                                                                                    refine q_iald dL_law_1241 e371 ?_
                                                                                    refine q_aload_n 1 rfl dL_law_1242 ?_
                                                                                    refine q_iload 5 rfl dL_law_1243 ?_
                                                                                    refine q_iconst (x := 2) rfl dL_law_1245 ?_
                                                                                    refine q_iadd dL_law_1246 ?_
                                                                                    refine q_bind hyp (fun x372 e373 hyp => ?_)
                                                                                    refine q_iald dL_law_1247 e373 ?_
                                                                                    refine q_aload_n 1 rfl dL_law_1248 ?_
                                                                                    refine q_iload 5 rfl dL_law_1249 ?_
                                                                                    refine q_iconst (x := 3) rfl dL_law_1251 ?_
                                                                                    refine q_iadd dL_law_1252 ?_
                                                                                    refine q_bind hyp (fun x374 e375 hyp => ?_)
                                                                                    refine q_iald dL_law_1253 e375 ?_
                                                                                    refine q_aload_n 1 rfl dL_law_1254 ?_
                                                                                    refine q_iload 5 rfl dL_law_1255 ?_
                                                                                    refine q_iconst (x := 4) rfl dL_law_1257 ?_
                                                                                    refine q_iadd dL_law_1258 ?_
                                                                                    refine q_bind hyp (fun x376 e377 hyp => ?_)
                                                                                    refine q_iald dL_law_1259 e377 ?_
                                                                                    refine q_bind hyp (fun p378 e386 hyp => ?_)
                                                                                    refine q_callV (as := [.int x370, .int x372, .int x374, .int x376]) (st := []) kY_X10_rests kL_L_185 (okX10_rests (l := l) e386) (by decide) rfl (obX10_rests e386) (Nat.le_of_ble_eq_true rfl) dL_law_1260 ?_
                                                                                    refine q_to (ls' := [(5, .int p369.1), (0, .ref v0), (1, .ref v1), (2, .ref v2), (3, .ref v3), (4, .int v4)]) (st' := [.int p378.1]) rfl rfl ?_
                                                                                    refine q_istore (ls' := [(6, .int p378.1), (5, .int p369.1), (0, .ref v0), (1, .ref v1), (2, .ref v2), (3, .ref v3), (4, .int v4)]) (by decide) rfl dL_law_1263 ?_
                                                                                    refine q_aload_n 4 rfl dL_law_1265 ?_
                                                                                    refine q_bind hyp (fun p379 e385 hyp => ?_)
                                                                                    refine q_callV (as := []) (st := []) kY_X10_thrown kL_L_186 (okX10_thrown (l := l) e385) (by decide) rfl (obX10_thrown e385) (Nat.le_of_ble_eq_true rfl) dL_law_1266 ?_
                                                                                    refine q_to (ls' := [(6, .int p378.1), (5, .int p369.1), (0, .ref v0), (1, .ref v1), (2, .ref v2), (3, .ref v3), (4, .int v4)]) (st' := [.int p379.1]) rfl rfl ?_
                                                                                    refine q_iload 1 rfl dL_law_1269 ?_
                                                                                    refine q_icmp_eq (tgt := 1276) dL_law_1271 (by decide) (fun c380 => ?_) (fun c380 => ?_)
                                                                                    · have hyp := q_pos c380 hyp
                                                                                      refine q_iload 1 rfl dL_law_1276 ?_
                                                                                      refine q_if_ne (tgt := 1293) dL_law_1278 (by decide) (fun c381 => ?_) (fun c381 => ?_)
                                                                                      · have hyp := q_neg c381 hyp
                                                                                        refine q_goto (tgt := 1423) dL_law_1293 (by decide) ?_
                                                                                        refine q_iinc (ls' := [(4, .int (v4 + 7)), (6, .int p378.1), (5, .int p369.1), (0, .ref v0), (1, .ref v1), (2, .ref v2), (3, .ref v3)]) 6 rfl rfl (by decide) rfl dL_law_1423 ?_
                                                                                        refine q_goto (tgt := 23) dL_law_1426 (by decide) ?_
                                                                                        exact q_sub [3, 4, 5, 6, 0] rfl (ih v0 v1 v2 v3 (v4 + 7) p379.2 hyp)
                                                                                      · have hyp := q_pos c381 hyp
                                                                                        refine q_aload_n 5 rfl dL_law_1281 ?_
                                                                                        refine q_iconst (x := 0) rfl dL_law_1282 ?_
                                                                                        refine q_bind hyp (fun x382 e383 hyp => ?_)
                                                                                        refine q_lald dL_law_1283 e383 ?_
                                                                                        refine q_iload 0 rfl dL_law_1284 ?_
                                                                                        refine q_i2l dL_law_1286 ?_
                                                                                        refine q_lcmp dL_law_1287 ?_
                                                                                        refine q_if_eq (tgt := 1293) dL_law_1288 (by decide) (fun c384 => ?_) (fun c384 => ?_)
                                                                                        · have hyp := q_pos c384 hyp
                                                                                          refine q_goto (tgt := 1423) dL_law_1293 (by decide) ?_
                                                                                          refine q_iinc (ls' := [(4, .int (v4 + 7)), (6, .int p378.1), (5, .int p369.1), (0, .ref v0), (1, .ref v1), (2, .ref v2), (3, .ref v3)]) 6 rfl rfl (by decide) rfl dL_law_1423 ?_
                                                                                          refine q_goto (tgt := 23) dL_law_1426 (by decide) ?_
                                                                                          exact q_sub [3, 4, 5, 6, 0] rfl (ih v0 v1 v2 v3 (v4 + 7) p379.2 hyp)
                                                                                        · have hyp := q_neg c384 hyp
                                                                                          refine q_iconst (x := 0) rfl dL_law_1291 ?_
                                                                                          exact q_iretH rfl rfl dL_law_1292 hyp
                                                                                    · have hyp := q_neg c380 hyp
                                                                                      refine q_iconst (x := 0) rfl dL_law_1274 ?_
                                                                                      exact q_iretH rfl rfl dL_law_1275 hyp
                                                                                  · refine q_ite hyp (fun c388 hyp => ?_) (fun c388 hyp => ?_)
                                                                                    · refine q_tableIn (off := 1256) (tgt := 1296) dL_law_40 (by rw [c388]; decide) (by rw [c388]; decide) (by rw [c388]; rfl) (by decide) ?_
                                                                                      refine q_aload_n 1 rfl dL_law_1296 ?_
                                                                                      refine q_aload_n 0 rfl dL_law_1297 ?_
                                                                                      refine q_iload 4 rfl dL_law_1298 ?_
                                                                                      refine q_iconst (x := 1) rfl dL_law_1300 ?_
                                                                                      refine q_iadd dL_law_1301 ?_
                                                                                      refine q_bind hyp (fun x389 e390 hyp => ?_)
                                                                                      refine q_iald dL_law_1302 e390 ?_
                                                                                      refine q_aload_n 0 rfl dL_law_1303 ?_
                                                                                      refine q_iload 4 rfl dL_law_1304 ?_
                                                                                      refine q_iconst (x := 2) rfl dL_law_1306 ?_
                                                                                      refine q_iadd dL_law_1307 ?_
                                                                                      refine q_bind hyp (fun x391 e392 hyp => ?_)
                                                                                      refine q_iald dL_law_1308 e392 ?_
                                                                                      refine q_aload_n 0 rfl dL_law_1309 ?_
                                                                                      refine q_iload 4 rfl dL_law_1310 ?_
                                                                                      refine q_iconst (x := 3) rfl dL_law_1312 ?_
                                                                                      refine q_iadd dL_law_1313 ?_
                                                                                      refine q_bind hyp (fun x393 e394 hyp => ?_)
                                                                                      refine q_iald dL_law_1314 e394 ?_
                                                                                      refine q_bind hyp (fun p395 e405 hyp => ?_)
                                                                                      refine q_callV (as := [.int x389, .int x391, .int x393]) (st := []) kY_X9_years kL_L_189 (okX9_years (l := l) e405) (by decide) rfl (obX9_years e405) (Nat.le_of_ble_eq_true rfl) dL_law_1315 ?_
                                                                                      refine q_to (ls' := [(0, .ref v0), (1, .ref v1), (2, .ref v2), (3, .ref v3), (4, .int v4)]) (st' := [.int p395.1]) rfl rfl ?_
                                                                                      refine q_aload_n 2 rfl dL_law_1318 ?_
                                                                                      refine q_aload_n 0 rfl dL_law_1319 ?_
                                                                                      refine q_iload 4 rfl dL_law_1320 ?_
                                                                                      refine q_iconst (x := 1) rfl dL_law_1322 ?_
                                                                                      refine q_iadd dL_law_1323 ?_
                                                                                      refine q_bind hyp (fun x396 e397 hyp => ?_)
                                                                                      refine q_iald dL_law_1324 e397 ?_
                                                                                      refine q_aload_n 0 rfl dL_law_1325 ?_
                                                                                      refine q_iload 4 rfl dL_law_1326 ?_
                                                                                      refine q_iconst (x := 2) rfl dL_law_1328 ?_
                                                                                      refine q_iadd dL_law_1329 ?_
                                                                                      refine q_bind hyp (fun x398 e399 hyp => ?_)
                                                                                      refine q_iald dL_law_1330 e399 ?_
                                                                                      refine q_aload_n 0 rfl dL_law_1331 ?_
                                                                                      refine q_iload 4 rfl dL_law_1332 ?_
                                                                                      refine q_iconst (x := 3) rfl dL_law_1334 ?_
                                                                                      refine q_iadd dL_law_1335 ?_
                                                                                      refine q_bind hyp (fun x400 e401 hyp => ?_)
                                                                                      refine q_iald dL_law_1336 e401 ?_
                                                                                      refine q_bind hyp (fun p402 e404 hyp => ?_)
                                                                                      refine q_callV (as := [.int x396, .int x398, .int x400]) (st := [.int p395.1]) kY_X10_years kL_L_192 (okX10_years (l := l) e404) (by decide) rfl (obX10_years e404) (Nat.le_of_ble_eq_true rfl) dL_law_1337 ?_
                                                                                      refine q_to (ls' := [(0, .ref v0), (1, .ref v1), (2, .ref v2), (3, .ref v3), (4, .int v4)]) (st' := [.int p402.1, .int p395.1]) rfl rfl ?_
                                                                                      refine q_icmp_eq (tgt := 1423) dL_law_1340 (by decide) (fun c403 => ?_) (fun c403 => ?_)
                                                                                      · have hyp := q_pos c403 hyp
                                                                                        refine q_iinc (ls' := [(4, .int (v4 + 7)), (0, .ref v0), (1, .ref v1), (2, .ref v2), (3, .ref v3)]) 4 rfl rfl (by decide) rfl dL_law_1423 ?_
                                                                                        refine q_goto (tgt := 23) dL_law_1426 (by decide) ?_
                                                                                        exact q_sub [1, 2, 3, 4, 0] rfl (ih v0 v1 v2 v3 (v4 + 7) p402.2 hyp)
                                                                                      · have hyp := q_neg c403 hyp
                                                                                        refine q_iconst (x := 0) rfl dL_law_1343 ?_
                                                                                        exact q_iretH rfl rfl dL_law_1344 hyp
                                                                                    · refine q_ite hyp (fun c406 hyp => ?_) (fun c406 hyp => ?_)
                                                                                      · refine q_tableIn (off := 1305) (tgt := 1345) dL_law_40 (by rw [c406]; decide) (by rw [c406]; decide) (by rw [c406]; rfl) (by decide) ?_
                                                                                        refine q_aload_n 1 rfl dL_law_1345 ?_
                                                                                        refine q_aload_n 0 rfl dL_law_1346 ?_
                                                                                        refine q_iload 4 rfl dL_law_1347 ?_
                                                                                        refine q_iconst (x := 1) rfl dL_law_1349 ?_
                                                                                        refine q_iadd dL_law_1350 ?_
                                                                                        refine q_bind hyp (fun x407 e408 hyp => ?_)
                                                                                        refine q_iald dL_law_1351 e408 ?_
                                                                                        refine q_aload_n 0 rfl dL_law_1352 ?_
                                                                                        refine q_iload 4 rfl dL_law_1353 ?_
                                                                                        refine q_iconst (x := 2) rfl dL_law_1355 ?_
                                                                                        refine q_iadd dL_law_1356 ?_
                                                                                        refine q_bind hyp (fun x409 e410 hyp => ?_)
                                                                                        refine q_iald dL_law_1357 e410 ?_
                                                                                        refine q_if_eq (tgt := 1365) dL_law_1358 (by decide) (fun c411 => ?_) (fun c411 => ?_)
                                                                                        · have hyp := q_pos c411 hyp
                                                                                          refine q_iconst (x := 0) rfl dL_law_1365 ?_
                                                                                          exact q_sub [0, 1, 2, 3, 4] rfl (okL_law_b1366 hfl ih hyp)
                                                                                        · have hyp := q_neg c411 hyp
                                                                                          refine q_iconst (x := 1) rfl dL_law_1361 ?_
                                                                                          refine q_goto (tgt := 1366) dL_law_1362 (by decide) ?_
                                                                                          exact q_sub [0, 1, 2, 3, 4] rfl (okL_law_b1366 hfl ih hyp)
                                                                                      · refine q_ite hyp (fun c412 hyp => ?_) (fun c412 hyp => ?_)
                                                                                        · refine q_tableIn (off := 1358) (tgt := 1398) dL_law_40 (by rw [c412]; decide) (by rw [c412]; decide) (by rw [c412]; rfl) (by decide) ?_
                                                                                          refine q_aload_n 1 rfl dL_law_1398 ?_
                                                                                          refine q_aload_n 0 rfl dL_law_1399 ?_
                                                                                          refine q_iload 4 rfl dL_law_1400 ?_
                                                                                          refine q_iconst (x := 1) rfl dL_law_1402 ?_
                                                                                          refine q_iadd dL_law_1403 ?_
                                                                                          refine q_bind hyp (fun x413 e414 hyp => ?_)
                                                                                          refine q_iald dL_law_1404 e414 ?_
                                                                                          refine q_bind hyp (fun p415 e421 hyp => ?_)
                                                                                          refine q_callV (as := [.int x413]) (st := []) kY_X9_count kL_L_198 (okX9_count (l := l) e421) (by decide) rfl (obX9_count e421) (Nat.le_of_ble_eq_true rfl) dL_law_1405 ?_
                                                                                          refine q_to (ls' := [(0, .ref v0), (1, .ref v1), (2, .ref v2), (3, .ref v3), (4, .int v4)]) (st' := [.int p415.1]) rfl rfl ?_
                                                                                          refine q_aload_n 2 rfl dL_law_1408 ?_
                                                                                          refine q_aload_n 0 rfl dL_law_1409 ?_
                                                                                          refine q_iload 4 rfl dL_law_1410 ?_
                                                                                          refine q_iconst (x := 1) rfl dL_law_1412 ?_
                                                                                          refine q_iadd dL_law_1413 ?_
                                                                                          refine q_bind hyp (fun x416 e417 hyp => ?_)
                                                                                          refine q_iald dL_law_1414 e417 ?_
                                                                                          refine q_bind hyp (fun p418 e420 hyp => ?_)
                                                                                          refine q_callV (as := [.int x416]) (st := [.int p415.1]) kY_X10_count kL_L_201 (okX10_count (l := l) e420) (by decide) rfl (obX10_count e420) (Nat.le_of_ble_eq_true rfl) dL_law_1415 ?_
                                                                                          refine q_to (ls' := [(0, .ref v0), (1, .ref v1), (2, .ref v2), (3, .ref v3), (4, .int v4)]) (st' := [.int p418.1, .int p415.1]) rfl rfl ?_
                                                                                          refine q_icmp_eq (tgt := 1423) dL_law_1418 (by decide) (fun c419 => ?_) (fun c419 => ?_)
                                                                                          · have hyp := q_pos c419 hyp
                                                                                            refine q_iinc (ls' := [(4, .int (v4 + 7)), (0, .ref v0), (1, .ref v1), (2, .ref v2), (3, .ref v3)]) 4 rfl rfl (by decide) rfl dL_law_1423 ?_
                                                                                            refine q_goto (tgt := 23) dL_law_1426 (by decide) ?_
                                                                                            exact q_sub [1, 2, 3, 4, 0] rfl (ih v0 v1 v2 v3 (v4 + 7) p418.2 hyp)
                                                                                          · have hyp := q_neg c419 hyp
                                                                                            refine q_iconst (x := 0) rfl dL_law_1421 ?_
                                                                                            exact q_iretH rfl rfl dL_law_1422 hyp
                                                                                        · have zc6 := q_ni c6
                                                                                          have zc36 := q_ni c36
                                                                                          have zc42 := q_ni c42
                                                                                          have zc48 := q_ni c48
                                                                                          have zc62 := q_ni c62
                                                                                          have zc72 := q_ni c72
                                                                                          have zc82 := q_ni c82
                                                                                          have zc88 := q_ni c88
                                                                                          have zc94 := q_ni c94
                                                                                          have zc104 := q_ni c104
                                                                                          have zc110 := q_ni c110
                                                                                          have zc116 := q_ni c116
                                                                                          have zc126 := q_ni c126
                                                                                          have zc136 := q_ni c136
                                                                                          have zc150 := q_ni c150
                                                                                          have zc164 := q_ni c164
                                                                                          have zc170 := q_ni c170
                                                                                          have zc176 := q_ni c176
                                                                                          have zc182 := q_ni c182
                                                                                          have zc196 := q_ni c196
                                                                                          have zc206 := q_ni c206
                                                                                          have zc216 := q_ni c216
                                                                                          have zc226 := q_ni c226
                                                                                          have zc236 := q_ni c236
                                                                                          have zc246 := q_ni c246
                                                                                          have zc256 := q_ni c256
                                                                                          have zc270 := q_ni c270
                                                                                          have zc276 := q_ni c276
                                                                                          have zc282 := q_ni c282
                                                                                          have zc292 := q_ni c292
                                                                                          have zc298 := q_ni c298
                                                                                          have zc304 := q_ni c304
                                                                                          have zc310 := q_ni c310
                                                                                          have zc316 := q_ni c316
                                                                                          have zc322 := q_ni c322
                                                                                          have zc330 := q_ni c330
                                                                                          have zc336 := q_ni c336
                                                                                          have zc342 := q_ni c342
                                                                                          have zc360 := q_ni c360
                                                                                          have zc388 := q_ni c388
                                                                                          have zc406 := q_ni c406
                                                                                          have zc412 := q_ni c412
                                                                                          have zz : (x4 &&& 63).toInt < 0 ∨ 41 < (x4 &&& 63).toInt := by
                                                                                            rw [show (0 : Int32).toInt = 0 from rfl] at zc6
                                                                                            rw [show (1 : Int32).toInt = 1 from rfl] at zc36
                                                                                            rw [show (2 : Int32).toInt = 2 from rfl] at zc42
                                                                                            rw [show (3 : Int32).toInt = 3 from rfl] at zc48
                                                                                            rw [show (4 : Int32).toInt = 4 from rfl] at zc62
                                                                                            rw [show (5 : Int32).toInt = 5 from rfl] at zc72
                                                                                            rw [show (6 : Int32).toInt = 6 from rfl] at zc82
                                                                                            rw [show (7 : Int32).toInt = 7 from rfl] at zc88
                                                                                            rw [show (8 : Int32).toInt = 8 from rfl] at zc94
                                                                                            rw [show (9 : Int32).toInt = 9 from rfl] at zc104
                                                                                            rw [show (10 : Int32).toInt = 10 from rfl] at zc110
                                                                                            rw [show (11 : Int32).toInt = 11 from rfl] at zc116
                                                                                            rw [show (12 : Int32).toInt = 12 from rfl] at zc126
                                                                                            rw [show (13 : Int32).toInt = 13 from rfl] at zc136
                                                                                            rw [show (14 : Int32).toInt = 14 from rfl] at zc150
                                                                                            rw [show (15 : Int32).toInt = 15 from rfl] at zc164
                                                                                            rw [show (16 : Int32).toInt = 16 from rfl] at zc170
                                                                                            rw [show (17 : Int32).toInt = 17 from rfl] at zc176
                                                                                            rw [show (18 : Int32).toInt = 18 from rfl] at zc182
                                                                                            rw [show (19 : Int32).toInt = 19 from rfl] at zc196
                                                                                            rw [show (20 : Int32).toInt = 20 from rfl] at zc206
                                                                                            rw [show (21 : Int32).toInt = 21 from rfl] at zc216
                                                                                            rw [show (22 : Int32).toInt = 22 from rfl] at zc226
                                                                                            rw [show (23 : Int32).toInt = 23 from rfl] at zc236
                                                                                            rw [show (24 : Int32).toInt = 24 from rfl] at zc246
                                                                                            rw [show (25 : Int32).toInt = 25 from rfl] at zc256
                                                                                            rw [show (26 : Int32).toInt = 26 from rfl] at zc270
                                                                                            rw [show (27 : Int32).toInt = 27 from rfl] at zc276
                                                                                            rw [show (28 : Int32).toInt = 28 from rfl] at zc282
                                                                                            rw [show (29 : Int32).toInt = 29 from rfl] at zc292
                                                                                            rw [show (30 : Int32).toInt = 30 from rfl] at zc298
                                                                                            rw [show (31 : Int32).toInt = 31 from rfl] at zc304
                                                                                            rw [show (32 : Int32).toInt = 32 from rfl] at zc310
                                                                                            rw [show (33 : Int32).toInt = 33 from rfl] at zc316
                                                                                            rw [show (34 : Int32).toInt = 34 from rfl] at zc322
                                                                                            rw [show (35 : Int32).toInt = 35 from rfl] at zc330
                                                                                            rw [show (36 : Int32).toInt = 36 from rfl] at zc336
                                                                                            rw [show (37 : Int32).toInt = 37 from rfl] at zc342
                                                                                            rw [show (38 : Int32).toInt = 38 from rfl] at zc360
                                                                                            rw [show (39 : Int32).toInt = 39 from rfl] at zc388
                                                                                            rw [show (40 : Int32).toInt = 40 from rfl] at zc406
                                                                                            rw [show (41 : Int32).toInt = 41 from rfl] at zc412
                                                                                            omega
                                                                                          refine q_tableOut (tgt := 1423) dL_law_40 zz (by decide) ?_
                                                                                          refine q_iinc (ls' := [(4, .int (v4 + 7)), (0, .ref v0), (1, .ref v1), (2, .ref v2), (3, .ref v3)]) 4 rfl rfl (by decide) rfl dL_law_1423 ?_
                                                                                          refine q_goto (tgt := 23) dL_law_1426 (by decide) ?_
                                                                                          exact q_sub [1, 2, 3, 4, 0] rfl (ih v0 v1 v2 v3 (v4 + 7) h hyp)
def fL_law (n : Nat) (v0 : Nat) (h : qH) : Option (Int32 × qH) :=
  (some (nwE (.inr (9, [.null, .null, .null, .null, .null, .null, .null, .null, .null, .null, .null, .null, .null])) 13 h)).bind fun h1 =>
  (fX9_init n h.2.1 h1).bind fun h3 =>
  (some (nwE (.inr (10, dfX10)) 53 h3)).bind fun h4 =>
  (fX10_init n h3.2.1 h4).bind fun h6 =>
  (some (nwE (.inl (.long, 1, .inr (.inl (fun _ => 0)))) 1 h6)).bind fun h7 =>
  fL_law_b23 n n v0 h.2.1 h3.2.1 h6.2.1 0 h7
set_option maxHeartbeats 4000000 in
set_option maxRecDepth 100000 in
theorem okL_law {l : Launch} {n : Nat} {v0 : Nat} {h : qH} {r : Int32} {h' : qH} (hfl : l.stackTraces = false) (hyp : fL_law n v0 h = some (r, h')) : q_W l 55 yL_law cL_law 7 (some .boolean) (some (.int r)) h' 0 [(0, .ref v0)] [] h := by
  unfold fL_law at hyp
  refine q_bind hyp (fun h1 e2 hyp => ?_)
  refine q_new (fs := [.null, .null, .null, .null, .null, .null, .null, .null, .null, .null, .null, .null, .null]) kC9 kN_L_8 kT9 kZ9 (fun _ => (by decide +kernel : ∀ j, j < 13 → defaultValue (tyX9 j) = vp_V [.null, .null, .null, .null, .null, .null, .null, .null, .null, .null, .null, .null, .null] j)) dL_law_0 ?_
  rw [Option.some.inj e2]
  refine q_dup rfl dL_law_3 ?_
  refine q_bind hyp (fun h3 e10 hyp => ?_)
  refine q_callI (as := []) (st := [.ref h.2.1]) kY_X9_init kI_X9_init rfl kL_L_15 (okX9_init (l := l) e10) (by decide) rfl (Nat.le_of_ble_eq_true rfl) dL_law_4 ?_
  refine q_to (ls' := [(0, .ref v0)]) (st' := [.ref h.2.1]) rfl rfl ?_
  refine q_astore_n (ls' := [(1, .ref h.2.1), (0, .ref v0)]) (by decide) rfl dL_law_7 ?_
  refine q_bind hyp (fun h4 e5 hyp => ?_)
  refine q_new (fs := dfX10) kC10 kN_L_16 kT10 kZ10 dfX10_ok dL_law_8 ?_
  rw [Option.some.inj e5]
  refine q_dup rfl dL_law_11 ?_
  refine q_bind hyp (fun h6 e9 hyp => ?_)
  refine q_callI (as := []) (st := [.ref h3.2.1]) kY_X10_init kI_X10_init rfl kL_L_18 (okX10_init (l := l) e9) (by decide) rfl (Nat.le_of_ble_eq_true rfl) dL_law_12 ?_
  refine q_to (ls' := [(1, .ref h.2.1), (0, .ref v0)]) (st' := [.ref h3.2.1]) rfl rfl ?_
  refine q_astore_n (ls' := [(2, .ref h3.2.1), (1, .ref h.2.1), (0, .ref v0)]) (by decide) rfl dL_law_15 ?_
  refine q_iconst (x := 1) rfl dL_law_16 ?_
  refine q_bind hyp (fun h7 e8 hyp => ?_)
  refine q_newa (ty := .long) (N := 1) (k := .inr (.inl (fun _ => 0))) rfl rfl kA_long (fun _ _ => rfl) (fun _ _ h => h) (by decide) (by decide) dL_law_17 ?_
  rw [Option.some.inj e8]
  refine q_astore_n (ls' := [(3, .ref h6.2.1), (2, .ref h3.2.1), (1, .ref h.2.1), (0, .ref v0)]) (by decide) rfl dL_law_19 ?_
  refine q_iconst (x := 0) rfl dL_law_20 ?_
  refine q_istore (ls' := [(4, .int 0), (3, .ref h6.2.1), (2, .ref h3.2.1), (1, .ref h.2.1), (0, .ref v0)]) (by decide) rfl dL_law_21 ?_
  exact q_sub [4, 3, 2, 1, 0] rfl (okL_law_b23 hfl _ v0 h.2.1 h3.2.1 h6.2.1 0 h7 hyp)
