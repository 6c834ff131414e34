/-! The law: its cases. -/
section LQC
variable {p : Program} {l : Launch} {e : Env} {s : State} {m : MethodId} {below : List Frame} {meth : Method} {c : Code} {b L : Nat} {xs : Nat → Int32} {D : va_G} {cA : Nat → ClassId} {ad : Nat → Nat → Nat} {M : mv_M} {F : qg_F} {i : Nat}
set_option maxRecDepth 100000 in
theorem lq_case_0 (hC : lq_C p l e s m below meth c b L xs D cA ad) (hi : i + 5 ≤ L) (I : lq_I M F) (next : ∀ M' F', lq_I M' F' → lq_G p l e s m below meth c b D cA ad 937 [] M' i) : lq_G p l e s m below meth c b D cA ad 156 [] M i := by -- addArticle
  refine lq_a1 hC dL_law_156 ?_
  refine lq_arg (kk := 1) hC dL_law_157 dL_law_158 dL_law_159 dL_law_160 dL_law_161 (by omega) ?_
  refine lq_arg (kk := 2) hC dL_law_162 dL_law_163 dL_law_164 dL_law_165 dL_law_166 (by omega) ?_
  refine lq_call hC (as := [.inl (lq_x xs (i + 1)), .inl (lq_x xs (i + 2))]) (st' := []) dL_law_167 wq_0 wq_1 wq_2 yl_X10_addArticle mc_X10 (by decide) rfl (by decide) rfl (Nat.zero_le 1) (sp_X10_addArticle I.1 I.2.2 (fun M1 hX1 hof1 => ⟨_, rfl, ?_⟩))
  have hZ1 := lq_frZ hof1 I.2.1
  refine lq_a2 hC dL_law_170 ?_
  refine lq_arg (kk := 1) hC dL_law_171 dL_law_172 dL_law_173 dL_law_174 dL_law_175 (by omega) ?_
  refine lq_arg (kk := 2) hC dL_law_176 dL_law_177 dL_law_178 dL_law_179 dL_law_180 (by omega) ?_
  refine lq_call hC (as := [.inl (lq_x xs (i + 1)), .inl (lq_x xs (i + 2))]) (st' := [.inl _]) dL_law_181 wq_5 wq_6 wq_7 yl_X11_addArticle mc_X11 (by decide) rfl (by decide) rfl (Nat.le_refl 1) (sp_X11_addArticle hZ1 I.2.2 (fun M2 hZ2 hof2 => ⟨_, rfl, ?_⟩))
  refine lq_eq (tgt := 937) hC dL_law_184 (by decide) rfl ?_
  exact next M2 (op_addArticle F (lq_x xs (i + 1)) (lq_x xs (i + 2))).2 ⟨lq_frX hof2 hX1, hZ2, wf_addArticle I.2.2 _ _⟩
set_option maxRecDepth 100000 in
theorem lq_case_1 (hC : lq_C p l e s m below meth c b L xs D cA ad) (hi : i + 5 ≤ L) (I : lq_I M F) (next : ∀ M' F', lq_I M' F' → lq_G p l e s m below meth c b D cA ad 937 [] M' i) : lq_G p l e s m below meth c b D cA ad 189 [] M i := by -- removeArticle
  refine lq_a1 hC dL_law_189 ?_
  refine lq_arg (kk := 1) hC dL_law_190 dL_law_191 dL_law_192 dL_law_193 dL_law_194 (by omega) ?_
  refine lq_call hC (as := [.inl (lq_x xs (i + 1))]) (st' := []) dL_law_195 wq_10 wq_11 wq_12 yl_X10_removeArticle mc_X10 (by decide) rfl (by decide) rfl (Nat.zero_le 1) (sp_X10_removeArticle I.1 I.2.2 (fun M1 hX1 hof1 => ⟨_, rfl, ?_⟩))
  have hZ1 := lq_frZ hof1 I.2.1
  refine lq_a2 hC dL_law_198 ?_
  refine lq_arg (kk := 1) hC dL_law_199 dL_law_200 dL_law_201 dL_law_202 dL_law_203 (by omega) ?_
  refine lq_call hC (as := [.inl (lq_x xs (i + 1))]) (st' := [.inl _]) dL_law_204 wq_14 wq_15 wq_16 yl_X11_removeArticle mc_X11 (by decide) rfl (by decide) rfl (Nat.le_refl 1) (sp_X11_removeArticle hZ1 I.2.2 (fun M2 hZ2 hof2 => ⟨_, rfl, ?_⟩))
  refine lq_eq (tgt := 937) hC dL_law_207 (by decide) rfl ?_
  exact next M2 (op_removeArticle F (lq_x xs (i + 1))).2 ⟨lq_frX hof2 hX1, hZ2, wf_removeArticle I.2.2 _⟩
set_option maxRecDepth 100000 in
theorem lq_case_2 (hC : lq_C p l e s m below meth c b L xs D cA ad) (hi : i + 5 ≤ L) (I : lq_I M F) (next : ∀ M' F', lq_I M' F' → lq_G p l e s m below meth c b D cA ad 937 [] M' i) : lq_G p l e s m below meth c b D cA ad 212 [] M i := by -- setArticle
  refine lq_a1 hC dL_law_212 ?_
  refine lq_arg (kk := 1) hC dL_law_213 dL_law_214 dL_law_215 dL_law_216 dL_law_217 (by omega) ?_
  refine lq_arg (kk := 2) hC dL_law_218 dL_law_219 dL_law_220 dL_law_221 dL_law_222 (by omega) ?_
  refine lq_arg (kk := 3) hC dL_law_223 dL_law_224 dL_law_225 dL_law_226 dL_law_227 (by omega) ?_
  refine lq_call hC (as := [.inl (lq_x xs (i + 1)), .inl (lq_x xs (i + 2)), .inl (lq_x xs (i + 3))]) (st' := []) dL_law_228 wq_18 wq_19 wq_20 yl_X10_setArticle mc_X10 (by decide) rfl (by decide) rfl (Nat.zero_le 1) (sp_X10_setArticle I.1 I.2.2 (fun M1 hX1 hof1 => ⟨_, rfl, ?_⟩))
  have hZ1 := lq_frZ hof1 I.2.1
  refine lq_a2 hC dL_law_231 ?_
  refine lq_arg (kk := 1) hC dL_law_232 dL_law_233 dL_law_234 dL_law_235 dL_law_236 (by omega) ?_
  refine lq_arg (kk := 2) hC dL_law_237 dL_law_238 dL_law_239 dL_law_240 dL_law_241 (by omega) ?_
  refine lq_arg (kk := 3) hC dL_law_242 dL_law_243 dL_law_244 dL_law_245 dL_law_246 (by omega) ?_
  refine lq_call hC (as := [.inl (lq_x xs (i + 1)), .inl (lq_x xs (i + 2)), .inl (lq_x xs (i + 3))]) (st' := [.inl _]) dL_law_247 wq_22 wq_23 wq_24 yl_X11_setArticle mc_X11 (by decide) rfl (by decide) rfl (Nat.le_refl 1) (sp_X11_setArticle hZ1 I.2.2 (fun M2 hZ2 hof2 => ⟨_, rfl, ?_⟩))
  refine lq_eq (tgt := 937) hC dL_law_250 (by decide) rfl ?_
  exact next M2 (op_setArticle F (lq_x xs (i + 1)) (lq_x xs (i + 2)) (lq_x xs (i + 3))).2 ⟨lq_frX hof2 hX1, hZ2, wf_setArticle I.2.2 _ _ _⟩
set_option maxRecDepth 100000 in
theorem lq_case_3 (hC : lq_C p l e s m below meth c b L xs D cA ad) (hi : i + 5 ≤ L) (I : lq_I M F) (next : ∀ M' F', lq_I M' F' → lq_G p l e s m below meth c b D cA ad 937 [] M' i) : lq_G p l e s m below meth c b D cA ad 255 [] M i := by -- addSentence
  refine lq_a1 hC dL_law_255 ?_
  refine lq_arg (kk := 1) hC dL_law_256 dL_law_257 dL_law_258 dL_law_259 dL_law_260 (by omega) ?_
  refine lq_arg (kk := 2) hC dL_law_261 dL_law_262 dL_law_263 dL_law_264 dL_law_265 (by omega) ?_
  refine lq_call hC (as := [.inl (lq_x xs (i + 1)), .inl (lq_x xs (i + 2))]) (st' := []) dL_law_266 wq_26 wq_27 wq_28 yl_X10_addSentence mc_X10 (by decide) rfl (by decide) rfl (Nat.zero_le 1) (sp_X10_addSentence I.1 I.2.2 (fun M1 hX1 hof1 => ⟨_, rfl, ?_⟩))
  have hZ1 := lq_frZ hof1 I.2.1
  refine lq_a2 hC dL_law_269 ?_
  refine lq_arg (kk := 1) hC dL_law_270 dL_law_271 dL_law_272 dL_law_273 dL_law_274 (by omega) ?_
  refine lq_arg (kk := 2) hC dL_law_275 dL_law_276 dL_law_277 dL_law_278 dL_law_279 (by omega) ?_
  refine lq_call hC (as := [.inl (lq_x xs (i + 1)), .inl (lq_x xs (i + 2))]) (st' := [.inl _]) dL_law_280 wq_30 wq_31 wq_32 yl_X11_addSentence mc_X11 (by decide) rfl (by decide) rfl (Nat.le_refl 1) (sp_X11_addSentence hZ1 I.2.2 (fun M2 hZ2 hof2 => ⟨_, rfl, ?_⟩))
  refine lq_eq (tgt := 937) hC dL_law_283 (by decide) rfl ?_
  exact next M2 (op_addSentence F (lq_x xs (i + 1)) (lq_x xs (i + 2))).2 ⟨lq_frX hof2 hX1, hZ2, wf_addSentence I.2.2 _ _⟩
set_option maxRecDepth 100000 in
theorem lq_case_4 (hC : lq_C p l e s m below meth c b L xs D cA ad) (hi : i + 5 ≤ L) (I : lq_I M F) (next : ∀ M' F', lq_I M' F' → lq_G p l e s m below meth c b D cA ad 937 [] M' i) : lq_G p l e s m below meth c b D cA ad 288 [] M i := by -- addQuote
  refine lq_a1 hC dL_law_288 ?_
  refine lq_arg (kk := 1) hC dL_law_289 dL_law_290 dL_law_291 dL_law_292 dL_law_293 (by omega) ?_
  refine lq_arg (kk := 2) hC dL_law_294 dL_law_295 dL_law_296 dL_law_297 dL_law_298 (by omega) ?_
  refine lq_arg (kk := 3) hC dL_law_299 dL_law_300 dL_law_301 dL_law_302 dL_law_303 (by omega) ?_
  refine lq_arg (kk := 4) hC dL_law_304 dL_law_305 dL_law_306 dL_law_307 dL_law_308 (by omega) ?_
  refine lq_call hC (as := [.inl (lq_x xs (i + 1)), .inl (lq_x xs (i + 2)), .inl (lq_x xs (i + 3)), .inl (lq_x xs (i + 4))]) (st' := []) dL_law_309 wq_34 wq_35 wq_36 yl_X10_addQuote mc_X10 (by decide) rfl (by decide) rfl (Nat.zero_le 1) (sp_X10_addQuote I.1 I.2.2 (fun M1 hX1 hof1 => ⟨_, rfl, ?_⟩))
  have hZ1 := lq_frZ hof1 I.2.1
  refine lq_a2 hC dL_law_312 ?_
  refine lq_arg (kk := 1) hC dL_law_313 dL_law_314 dL_law_315 dL_law_316 dL_law_317 (by omega) ?_
  refine lq_arg (kk := 2) hC dL_law_318 dL_law_319 dL_law_320 dL_law_321 dL_law_322 (by omega) ?_
  refine lq_arg (kk := 3) hC dL_law_323 dL_law_324 dL_law_325 dL_law_326 dL_law_327 (by omega) ?_
  refine lq_arg (kk := 4) hC dL_law_328 dL_law_329 dL_law_330 dL_law_331 dL_law_332 (by omega) ?_
  refine lq_call hC (as := [.inl (lq_x xs (i + 1)), .inl (lq_x xs (i + 2)), .inl (lq_x xs (i + 3)), .inl (lq_x xs (i + 4))]) (st' := [.inl _]) dL_law_333 wq_38 wq_39 wq_40 yl_X11_addQuote mc_X11 (by decide) rfl (by decide) rfl (Nat.le_refl 1) (sp_X11_addQuote hZ1 I.2.2 (fun M2 hZ2 hof2 => ⟨_, rfl, ?_⟩))
  refine lq_eq (tgt := 937) hC dL_law_336 (by decide) rfl ?_
  exact next M2 (op_addQuote F (lq_x xs (i + 1)) (lq_x xs (i + 2)) (lq_x xs (i + 3)) (lq_x xs (i + 4))).2 ⟨lq_frX hof2 hX1, hZ2, wf_addQuote I.2.2 _ _ _ _⟩
set_option maxRecDepth 100000 in
theorem lq_case_5 (hC : lq_C p l e s m below meth c b L xs D cA ad) (hi : i + 5 ≤ L) (I : lq_I M F) (next : ∀ M' F', lq_I M' F' → lq_G p l e s m below meth c b D cA ad 937 [] M' i) : lq_G p l e s m below meth c b D cA ad 341 [] M i := by -- removeQuote
  refine lq_a1 hC dL_law_341 ?_
  refine lq_arg (kk := 1) hC dL_law_342 dL_law_343 dL_law_344 dL_law_345 dL_law_346 (by omega) ?_
  refine lq_call hC (as := [.inl (lq_x xs (i + 1))]) (st' := []) dL_law_347 wq_42 wq_43 wq_44 yl_X10_removeQuote mc_X10 (by decide) rfl (by decide) rfl (Nat.zero_le 1) (sp_X10_removeQuote I.1 I.2.2 (fun M1 hX1 hof1 => ⟨_, rfl, ?_⟩))
  have hZ1 := lq_frZ hof1 I.2.1
  refine lq_a2 hC dL_law_350 ?_
  refine lq_arg (kk := 1) hC dL_law_351 dL_law_352 dL_law_353 dL_law_354 dL_law_355 (by omega) ?_
  refine lq_call hC (as := [.inl (lq_x xs (i + 1))]) (st' := [.inl _]) dL_law_356 wq_46 wq_47 wq_48 yl_X11_removeQuote mc_X11 (by decide) rfl (by decide) rfl (Nat.le_refl 1) (sp_X11_removeQuote hZ1 I.2.2 (fun M2 hZ2 hof2 => ⟨_, rfl, ?_⟩))
  refine lq_eq (tgt := 937) hC dL_law_359 (by decide) rfl ?_
  exact next M2 (op_removeQuote F (lq_x xs (i + 1))).2 ⟨lq_frX hof2 hX1, hZ2, wf_removeQuote I.2.2 _⟩
set_option maxRecDepth 100000 in
theorem lq_case_6 (hC : lq_C p l e s m below meth c b L xs D cA ad) (hi : i + 5 ≤ L) (I : lq_I M F) (next : ∀ M' F', lq_I M' F' → lq_G p l e s m below meth c b D cA ad 937 [] M' i) : lq_G p l e s m below meth c b D cA ad 364 [] M i := by -- place
  refine lq_a1 hC dL_law_364 ?_
  refine lq_arg (kk := 1) hC dL_law_365 dL_law_366 dL_law_367 dL_law_368 dL_law_369 (by omega) ?_
  refine lq_arg (kk := 2) hC dL_law_370 dL_law_371 dL_law_372 dL_law_373 dL_law_374 (by omega) ?_
  refine lq_arg (kk := 3) hC dL_law_375 dL_law_376 dL_law_377 dL_law_378 dL_law_379 (by omega) ?_
  refine lq_arg (kk := 4) hC dL_law_380 dL_law_381 dL_law_382 dL_law_383 dL_law_384 (by omega) ?_
  refine lq_call hC (as := [.inl (lq_x xs (i + 1)), .inl (lq_x xs (i + 2)), .inl (lq_x xs (i + 3)), .inl (lq_x xs (i + 4))]) (st' := []) dL_law_385 wq_50 wq_51 wq_52 yl_X10_place mc_X10 (by decide) rfl (by decide) rfl (Nat.zero_le 1) (sp_X10_place I.1 I.2.2 (fun M1 hX1 hof1 => ⟨_, rfl, ?_⟩))
  have hZ1 := lq_frZ hof1 I.2.1
  refine lq_a2 hC dL_law_388 ?_
  refine lq_arg (kk := 1) hC dL_law_389 dL_law_390 dL_law_391 dL_law_392 dL_law_393 (by omega) ?_
  refine lq_arg (kk := 2) hC dL_law_394 dL_law_395 dL_law_396 dL_law_397 dL_law_398 (by omega) ?_
  refine lq_arg (kk := 3) hC dL_law_399 dL_law_400 dL_law_401 dL_law_402 dL_law_403 (by omega) ?_
  refine lq_arg (kk := 4) hC dL_law_404 dL_law_405 dL_law_406 dL_law_407 dL_law_408 (by omega) ?_
  refine lq_call hC (as := [.inl (lq_x xs (i + 1)), .inl (lq_x xs (i + 2)), .inl (lq_x xs (i + 3)), .inl (lq_x xs (i + 4))]) (st' := [.inl _]) dL_law_409 wq_54 wq_55 wq_56 yl_X11_place mc_X11 (by decide) rfl (by decide) rfl (Nat.le_refl 1) (sp_X11_place hZ1 I.2.2 (fun M2 hZ2 hof2 => ⟨_, rfl, ?_⟩))
  refine lq_eq (tgt := 937) hC dL_law_412 (by decide) rfl ?_
  exact next M2 (op_place F (lq_x xs (i + 1)) (lq_x xs (i + 2)) (lq_x xs (i + 3)) (lq_x xs (i + 4))).2 ⟨lq_frX hof2 hX1, hZ2, wf_place I.2.2 _ _ _ _⟩
set_option maxRecDepth 100000 in
theorem lq_case_7 (hC : lq_C p l e s m below meth c b L xs D cA ad) (hi : i + 5 ≤ L) (I : lq_I M F) (next : ∀ M' F', lq_I M' F' → lq_G p l e s m below meth c b D cA ad 937 [] M' i) : lq_G p l e s m below meth c b D cA ad 417 [] M i := by -- lift
  refine lq_a1 hC dL_law_417 ?_
  refine lq_arg (kk := 1) hC dL_law_418 dL_law_419 dL_law_420 dL_law_421 dL_law_422 (by omega) ?_
  refine lq_call hC (as := [.inl (lq_x xs (i + 1))]) (st' := []) dL_law_423 wq_58 wq_59 wq_60 yl_X10_lift mc_X10 (by decide) rfl (by decide) rfl (Nat.zero_le 1) (sp_X10_lift I.1 I.2.2 (fun M1 hX1 hof1 => ⟨_, rfl, ?_⟩))
  have hZ1 := lq_frZ hof1 I.2.1
  refine lq_a2 hC dL_law_426 ?_
  refine lq_arg (kk := 1) hC dL_law_427 dL_law_428 dL_law_429 dL_law_430 dL_law_431 (by omega) ?_
  refine lq_call hC (as := [.inl (lq_x xs (i + 1))]) (st' := [.inl _]) dL_law_432 wq_62 wq_63 wq_64 yl_X11_lift mc_X11 (by decide) rfl (by decide) rfl (Nat.le_refl 1) (sp_X11_lift hZ1 I.2.2 (fun M2 hZ2 hof2 => ⟨_, rfl, ?_⟩))
  refine lq_eq (tgt := 937) hC dL_law_435 (by decide) rfl ?_
  exact next M2 (op_lift F (lq_x xs (i + 1))).2 ⟨lq_frX hof2 hX1, hZ2, wf_lift I.2.2 _⟩
set_option maxRecDepth 100000 in
theorem lq_case_8 (hC : lq_C p l e s m below meth c b L xs D cA ad) (hi : i + 5 ≤ L) (I : lq_I M F) (next : ∀ M' F', lq_I M' F' → lq_G p l e s m below meth c b D cA ad 937 [] M' i) : lq_G p l e s m below meth c b D cA ad 440 [] M i := by -- floatAll
  refine lq_a1 hC dL_law_440 ?_
  refine lq_call hC (as := []) (st' := []) dL_law_441 wq_66 wq_67 wq_68 yl_X10_floatAll mc_X10 (by decide) rfl (by decide) rfl (Nat.zero_le 1) (sp_X10_floatAll I.1 I.2.2 (fun M1 hX1 hof1 => ⟨_, rfl, ?_⟩))
  have hZ1 := lq_frZ hof1 I.2.1
  refine lq_a2 hC dL_law_444 ?_
  refine lq_call hC (as := []) (st' := [.inl _]) dL_law_445 wq_70 wq_71 wq_72 yl_X11_floatAll mc_X11 (by decide) rfl (by decide) rfl (Nat.le_refl 1) (sp_X11_floatAll hZ1 I.2.2 (fun M2 hZ2 hof2 => ⟨_, rfl, ?_⟩))
  refine lq_eq (tgt := 937) hC dL_law_448 (by decide) rfl ?_
  exact next M2 (op_floatAll F).2 ⟨lq_frX hof2 hX1, hZ2, wf_floatAll I.2.2⟩
set_option maxRecDepth 100000 in
theorem lq_case_9 (hC : lq_C p l e s m below meth c b L xs D cA ad) (hi : i + 5 ≤ L) (I : lq_I M F) (next : ∀ M' F', lq_I M' F' → lq_G p l e s m below meth c b D cA ad 937 [] M' i) : lq_G p l e s m below meth c b D cA ad 453 [] M i := by -- setRule
  refine lq_a1 hC dL_law_453 ?_
  refine lq_arg (kk := 1) hC dL_law_454 dL_law_455 dL_law_456 dL_law_457 dL_law_458 (by omega) ?_
  refine lq_arg (kk := 2) hC dL_law_459 dL_law_460 dL_law_461 dL_law_462 dL_law_463 (by omega) ?_
  refine lq_call hC (as := [.inl (lq_x xs (i + 1)), .inl (lq_x xs (i + 2))]) (st' := []) dL_law_464 wq_74 wq_75 wq_76 yl_X10_setRule mc_X10 (by decide) rfl (by decide) rfl (Nat.zero_le 1) (sp_X10_setRule I.1 I.2.2 (fun M1 hX1 hof1 => ⟨_, rfl, ?_⟩))
  have hZ1 := lq_frZ hof1 I.2.1
  refine lq_a2 hC dL_law_467 ?_
  refine lq_arg (kk := 1) hC dL_law_468 dL_law_469 dL_law_470 dL_law_471 dL_law_472 (by omega) ?_
  refine lq_arg (kk := 2) hC dL_law_473 dL_law_474 dL_law_475 dL_law_476 dL_law_477 (by omega) ?_
  refine lq_call hC (as := [.inl (lq_x xs (i + 1)), .inl (lq_x xs (i + 2))]) (st' := [.inl _]) dL_law_478 wq_78 wq_79 wq_80 yl_X11_setRule mc_X11 (by decide) rfl (by decide) rfl (Nat.le_refl 1) (sp_X11_setRule hZ1 I.2.2 (fun M2 hZ2 hof2 => ⟨_, rfl, ?_⟩))
  refine lq_eq (tgt := 937) hC dL_law_481 (by decide) rfl ?_
  exact next M2 (op_setRule F (lq_x xs (i + 1)) (lq_x xs (i + 2))).2 ⟨lq_frX hof2 hX1, hZ2, wf_setRule I.2.2 _ _⟩
set_option maxRecDepth 100000 in
theorem lq_case_10 (hC : lq_C p l e s m below meth c b L xs D cA ad) (hi : i + 5 ≤ L) (I : lq_I M F) (next : ∀ M' F', lq_I M' F' → lq_G p l e s m below meth c b D cA ad 937 [] M' i) : lq_G p l e s m below meth c b D cA ad 486 [] M i := by -- take
  refine lq_a1 hC dL_law_486 ?_
  refine lq_arg (kk := 1) hC dL_law_487 dL_law_488 dL_law_489 dL_law_490 dL_law_491 (by omega) ?_
  refine lq_call hC (as := [.inl (lq_x xs (i + 1))]) (st' := []) dL_law_492 wq_82 wq_83 wq_84 yl_X10_take mc_X10 (by decide) rfl (by decide) rfl (Nat.zero_le 1) (sp_X10_take I.1 I.2.2 (fun M1 hX1 hof1 => ⟨_, rfl, ?_⟩))
  have hZ1 := lq_frZ hof1 I.2.1
  refine lq_a2 hC dL_law_495 ?_
  refine lq_arg (kk := 1) hC dL_law_496 dL_law_497 dL_law_498 dL_law_499 dL_law_500 (by omega) ?_
  refine lq_call hC (as := [.inl (lq_x xs (i + 1))]) (st' := [.inl _]) dL_law_501 wq_86 wq_87 wq_88 yl_X11_take mc_X11 (by decide) rfl (by decide) rfl (Nat.le_refl 1) (sp_X11_take hZ1 I.2.2 (fun M2 hZ2 hof2 => ⟨_, rfl, ?_⟩))
  refine lq_eq (tgt := 937) hC dL_law_504 (by decide) rfl ?_
  exact next M2 (op_take F (lq_x xs (i + 1))).2 ⟨lq_frX hof2 hX1, hZ2, wf_take I.2.2 _⟩
set_option maxRecDepth 100000 in
theorem lq_case_11 (hC : lq_C p l e s m below meth c b L xs D cA ad) (hi : i + 5 ≤ L) (I : lq_I M F) (next : ∀ M' F', lq_I M' F' → lq_G p l e s m below meth c b D cA ad 937 [] M' i) : lq_G p l e s m below meth c b D cA ad 509 [] M i := by -- restore
  refine lq_a1 hC dL_law_509 ?_
  refine lq_arg (kk := 1) hC dL_law_510 dL_law_511 dL_law_512 dL_law_513 dL_law_514 (by omega) ?_
  refine lq_call hC (as := [.inl (lq_x xs (i + 1))]) (st' := []) dL_law_515 wq_90 wq_91 wq_92 yl_X10_restore mc_X10 (by decide) rfl (by decide) rfl (Nat.zero_le 1) (sp_X10_restore I.1 I.2.2 (fun M1 hX1 hof1 => ⟨_, rfl, ?_⟩))
  have hZ1 := lq_frZ hof1 I.2.1
  refine lq_a2 hC dL_law_518 ?_
  refine lq_arg (kk := 1) hC dL_law_519 dL_law_520 dL_law_521 dL_law_522 dL_law_523 (by omega) ?_
  refine lq_call hC (as := [.inl (lq_x xs (i + 1))]) (st' := [.inl _]) dL_law_524 wq_94 wq_95 wq_96 yl_X11_restore mc_X11 (by decide) rfl (by decide) rfl (Nat.le_refl 1) (sp_X11_restore hZ1 I.2.2 (fun M2 hZ2 hof2 => ⟨_, rfl, ?_⟩))
  refine lq_eq (tgt := 937) hC dL_law_527 (by decide) rfl ?_
  exact next M2 (op_restore F (lq_x xs (i + 1))).2 ⟨lq_frX hof2 hX1, hZ2, wf_restore I.2.2 _⟩
set_option maxRecDepth 100000 in
theorem lq_case_12 (hC : lq_C p l e s m below meth c b L xs D cA ad) (hi : i + 5 ≤ L) (I : lq_I M F) (next : ∀ M' F', lq_I M' F' → lq_G p l e s m below meth c b D cA ad 937 [] M' i) : lq_G p l e s m below meth c b D cA ad 532 [] M i := by -- undo
  refine lq_a1 hC dL_law_532 ?_
  refine lq_call hC (as := []) (st' := []) dL_law_533 wq_98 wq_99 wq_100 yl_X10_undo mc_X10 (by decide) rfl (by decide) rfl (Nat.zero_le 1) (sp_X10_undo I.1 I.2.2 (fun M1 hX1 hof1 => ⟨_, rfl, ?_⟩))
  have hZ1 := lq_frZ hof1 I.2.1
  refine lq_a2 hC dL_law_536 ?_
  refine lq_call hC (as := []) (st' := [.inl _]) dL_law_537 wq_102 wq_103 wq_104 yl_X11_undo mc_X11 (by decide) rfl (by decide) rfl (Nat.le_refl 1) (sp_X11_undo hZ1 I.2.2 (fun M2 hZ2 hof2 => ⟨_, rfl, ?_⟩))
  refine lq_eq (tgt := 937) hC dL_law_540 (by decide) rfl ?_
  exact next M2 (op_undo F).2 ⟨lq_frX hof2 hX1, hZ2, wf_undo I.2.2⟩
set_option maxRecDepth 100000 in
theorem lq_case_13 (hC : lq_C p l e s m below meth c b L xs D cA ad) (hi : i + 5 ≤ L) (I : lq_I M F) (next : ∀ M' F', lq_I M' F' → lq_G p l e s m below meth c b D cA ad 937 [] M' i) : lq_G p l e s m below meth c b D cA ad 545 [] M i := by -- append
  refine lq_a1 hC dL_law_545 ?_
  refine lq_arg (kk := 1) hC dL_law_546 dL_law_547 dL_law_548 dL_law_549 dL_law_550 (by omega) ?_
  refine lq_call hC (as := [.inl (lq_x xs (i + 1))]) (st' := []) dL_law_551 wq_106 wq_107 wq_108 yl_X10_append mc_X10 (by decide) rfl (by decide) rfl (Nat.zero_le 1) (sp_X10_append I.1 I.2.2 (fun M1 hX1 hof1 => ⟨_, rfl, ?_⟩))
  have hZ1 := lq_frZ hof1 I.2.1
  refine lq_a2 hC dL_law_554 ?_
  refine lq_arg (kk := 1) hC dL_law_555 dL_law_556 dL_law_557 dL_law_558 dL_law_559 (by omega) ?_
  refine lq_call hC (as := [.inl (lq_x xs (i + 1))]) (st' := [.inl _]) dL_law_560 wq_110 wq_111 wq_112 yl_X11_append mc_X11 (by decide) rfl (by decide) rfl (Nat.le_refl 1) (sp_X11_append hZ1 I.2.2 (fun M2 hZ2 hof2 => ⟨_, rfl, ?_⟩))
  refine lq_eq (tgt := 937) hC dL_law_563 (by decide) rfl ?_
  exact next M2 (op_append F (lq_x xs (i + 1))).2 ⟨lq_frX hof2 hX1, hZ2, wf_append I.2.2 _⟩
set_option maxRecDepth 100000 in
theorem lq_case_14 (hC : lq_C p l e s m below meth c b L xs D cA ad) (hi : i + 5 ≤ L) (I : lq_I M F) (next : ∀ M' F', lq_I M' F' → lq_G p l e s m below meth c b D cA ad 937 [] M' i) : lq_G p l e s m below meth c b D cA ad 568 [] M i := by -- clearText
  refine lq_a1 hC dL_law_568 ?_
  refine lq_call hC (as := []) (st' := []) dL_law_569 wq_114 wq_115 wq_116 yl_X10_clearText mc_X10 (by decide) rfl (by decide) rfl (Nat.zero_le 1) (sp_X10_clearText I.1 I.2.2 (fun M1 hX1 hof1 => ⟨_, rfl, ?_⟩))
  have hZ1 := lq_frZ hof1 I.2.1
  refine lq_a2 hC dL_law_572 ?_
  refine lq_call hC (as := []) (st' := [.inl _]) dL_law_573 wq_118 wq_119 wq_120 yl_X11_clearText mc_X11 (by decide) rfl (by decide) rfl (Nat.le_refl 1) (sp_X11_clearText hZ1 I.2.2 (fun M2 hZ2 hof2 => ⟨_, rfl, ?_⟩))
  refine lq_eq (tgt := 937) hC dL_law_576 (by decide) rfl ?_
  exact next M2 (op_clearText F).2 ⟨lq_frX hof2 hX1, hZ2, wf_clearText I.2.2⟩
set_option maxRecDepth 100000 in
theorem lq_case_15 (hC : lq_C p l e s m below meth c b L xs D cA ad) (hi : i + 5 ≤ L) (I : lq_I M F) (next : ∀ M' F', lq_I M' F' → lq_G p l e s m below meth c b D cA ad 937 [] M' i) : lq_G p l e s m below meth c b D cA ad 581 [] M i := by -- load
  refine lq_a1 hC dL_law_581 ?_
  refine lq_call hC (as := []) (st' := []) dL_law_582 wq_122 wq_123 wq_124 yl_X10_load mc_X10 (by decide) rfl (by decide) rfl (Nat.zero_le 1) (sp_X10_load I.1 I.2.2 (fun M1 hX1 hof1 => ⟨_, rfl, ?_⟩))
  have hZ1 := lq_frZ hof1 I.2.1
  refine lq_a2 hC dL_law_585 ?_
  refine lq_call hC (as := []) (st' := [.inl _]) dL_law_586 wq_126 wq_127 wq_128 yl_X11_load mc_X11 (by decide) rfl (by decide) rfl (Nat.le_refl 1) (sp_X11_load hZ1 I.2.2 (fun M2 hZ2 hof2 => ⟨_, rfl, ?_⟩))
  refine lq_eq (tgt := 937) hC dL_law_589 (by decide) rfl ?_
  exact next M2 (op_load F).2 ⟨lq_frX hof2 hX1, hZ2, wf_load I.2.2⟩
set_option maxRecDepth 100000 in
theorem lq_case_16 (hC : lq_C p l e s m below meth c b L xs D cA ad) (hi : i + 5 ≤ L) (I : lq_I M F) (next : ∀ M' F', lq_I M' F' → lq_G p l e s m below meth c b D cA ad 937 [] M' i) : lq_G p l e s m below meth c b D cA ad 594 [] M i := by -- count
  refine lq_a1 hC dL_law_594 ?_
  refine lq_arg (kk := 1) hC dL_law_595 dL_law_596 dL_law_597 dL_law_598 dL_law_599 (by omega) ?_
  refine lq_call hC (as := [.inl (lq_x xs (i + 1))]) (st' := []) dL_law_600 wq_130 wq_131 wq_132 yl_X10_count mc_X10 (by decide) rfl (by decide) rfl (Nat.zero_le 1) (sp_X10_count I.1 I.2.2 (fun M1 hX1 hof1 => ⟨_, rfl, ?_⟩))
  have hZ1 := lq_frZ hof1 I.2.1
  refine lq_a2 hC dL_law_603 ?_
  refine lq_arg (kk := 1) hC dL_law_604 dL_law_605 dL_law_606 dL_law_607 dL_law_608 (by omega) ?_
  refine lq_call hC (as := [.inl (lq_x xs (i + 1))]) (st' := [.inl _]) dL_law_609 wq_134 wq_135 wq_136 yl_X11_count mc_X11 (by decide) rfl (by decide) rfl (Nat.le_refl 1) (sp_X11_count hZ1 I.2.2 (fun M2 hZ2 hof2 => ⟨_, rfl, ?_⟩))
  refine lq_eq (tgt := 937) hC dL_law_612 (by decide) rfl ?_
  exact next M2 F ⟨lq_frX hof2 hX1, hZ2, I.2.2⟩
set_option maxRecDepth 100000 in
theorem lq_case_17 (hC : lq_C p l e s m below meth c b L xs D cA ad) (hi : i + 5 ≤ L) (I : lq_I M F) (next : ∀ M' F', lq_I M' F' → lq_G p l e s m below meth c b D cA ad 937 [] M' i) : lq_G p l e s m below meth c b D cA ad 617 [] M i := by -- article
  refine lq_a1 hC dL_law_617 ?_
  refine lq_arg (kk := 1) hC dL_law_618 dL_law_619 dL_law_620 dL_law_621 dL_law_622 (by omega) ?_
  refine lq_arg (kk := 2) hC dL_law_623 dL_law_624 dL_law_625 dL_law_626 dL_law_627 (by omega) ?_
  refine lq_call hC (as := [.inl (lq_x xs (i + 1)), .inl (lq_x xs (i + 2))]) (st' := []) dL_law_628 wq_138 wq_139 wq_140 yl_X10_article mc_X10 (by decide) rfl (by decide) rfl (Nat.zero_le 1) (sp_X10_article I.1 I.2.2 (fun M1 hX1 hof1 => ⟨_, rfl, ?_⟩))
  have hZ1 := lq_frZ hof1 I.2.1
  refine lq_a2 hC dL_law_631 ?_
  refine lq_arg (kk := 1) hC dL_law_632 dL_law_633 dL_law_634 dL_law_635 dL_law_636 (by omega) ?_
  refine lq_arg (kk := 2) hC dL_law_637 dL_law_638 dL_law_639 dL_law_640 dL_law_641 (by omega) ?_
  refine lq_call hC (as := [.inl (lq_x xs (i + 1)), .inl (lq_x xs (i + 2))]) (st' := [.inl _]) dL_law_642 wq_142 wq_143 wq_144 yl_X11_article mc_X11 (by decide) rfl (by decide) rfl (Nat.le_refl 1) (sp_X11_article hZ1 I.2.2 (fun M2 hZ2 hof2 => ⟨_, rfl, ?_⟩))
  refine lq_eq (tgt := 937) hC dL_law_645 (by decide) rfl ?_
  exact next M2 F ⟨lq_frX hof2 hX1, hZ2, I.2.2⟩
set_option maxRecDepth 100000 in
theorem lq_case_18 (hC : lq_C p l e s m below meth c b L xs D cA ad) (hi : i + 5 ≤ L) (I : lq_I M F) (next : ∀ M' F', lq_I M' F' → lq_G p l e s m below meth c b D cA ad 937 [] M' i) : lq_G p l e s m below meth c b D cA ad 650 [] M i := by -- lineAt
  refine lq_a1 hC dL_law_650 ?_
  refine lq_arg (kk := 1) hC dL_law_651 dL_law_652 dL_law_653 dL_law_654 dL_law_655 (by omega) ?_
  refine lq_arg (kk := 2) hC dL_law_656 dL_law_657 dL_law_658 dL_law_659 dL_law_660 (by omega) ?_
  refine lq_call hC (as := [.inl (lq_x xs (i + 1)), .inl (lq_x xs (i + 2))]) (st' := []) dL_law_661 wq_146 wq_147 wq_148 yl_X10_lineAt mc_X10 (by decide) rfl (by decide) rfl (Nat.zero_le 1) (sp_X10_lineAt I.1 I.2.2 (fun M1 hX1 hof1 => ⟨_, rfl, ?_⟩))
  have hZ1 := lq_frZ hof1 I.2.1
  refine lq_a2 hC dL_law_664 ?_
  refine lq_arg (kk := 1) hC dL_law_665 dL_law_666 dL_law_667 dL_law_668 dL_law_669 (by omega) ?_
  refine lq_arg (kk := 2) hC dL_law_670 dL_law_671 dL_law_672 dL_law_673 dL_law_674 (by omega) ?_
  refine lq_call hC (as := [.inl (lq_x xs (i + 1)), .inl (lq_x xs (i + 2))]) (st' := [.inl _]) dL_law_675 wq_150 wq_151 wq_152 yl_X11_lineAt mc_X11 (by decide) rfl (by decide) rfl (Nat.le_refl 1) (sp_X11_lineAt hZ1 I.2.2 (fun M2 hZ2 hof2 => ⟨_, rfl, ?_⟩))
  refine lq_eq (tgt := 937) hC dL_law_678 (by decide) rfl ?_
  exact next M2 F ⟨lq_frX hof2 hX1, hZ2, I.2.2⟩
set_option maxRecDepth 100000 in
theorem lq_case_19 (hC : lq_C p l e s m below meth c b L xs D cA ad) (hi : i + 5 ≤ L) (I : lq_I M F) (next : ∀ M' F', lq_I M' F' → lq_G p l e s m below meth c b D cA ad 937 [] M' i) : lq_G p l e s m below meth c b D cA ad 683 [] M i := by -- sentence
  refine lq_a1 hC dL_law_683 ?_
  refine lq_arg (kk := 1) hC dL_law_684 dL_law_685 dL_law_686 dL_law_687 dL_law_688 (by omega) ?_
  refine lq_arg (kk := 2) hC dL_law_689 dL_law_690 dL_law_691 dL_law_692 dL_law_693 (by omega) ?_
  refine lq_arg (kk := 3) hC dL_law_694 dL_law_695 dL_law_696 dL_law_697 dL_law_698 (by omega) ?_
  refine lq_call hC (as := [.inl (lq_x xs (i + 1)), .inl (lq_x xs (i + 2)), .inl (lq_x xs (i + 3))]) (st' := []) dL_law_699 wq_154 wq_155 wq_156 yl_X10_sentence mc_X10 (by decide) rfl (by decide) rfl (Nat.zero_le 1) (sp_X10_sentence I.1 I.2.2 (fun M1 hX1 hof1 => ⟨_, rfl, ?_⟩))
  have hZ1 := lq_frZ hof1 I.2.1
  refine lq_a2 hC dL_law_702 ?_
  refine lq_arg (kk := 1) hC dL_law_703 dL_law_704 dL_law_705 dL_law_706 dL_law_707 (by omega) ?_
  refine lq_arg (kk := 2) hC dL_law_708 dL_law_709 dL_law_710 dL_law_711 dL_law_712 (by omega) ?_
  refine lq_arg (kk := 3) hC dL_law_713 dL_law_714 dL_law_715 dL_law_716 dL_law_717 (by omega) ?_
  refine lq_call hC (as := [.inl (lq_x xs (i + 1)), .inl (lq_x xs (i + 2)), .inl (lq_x xs (i + 3))]) (st' := [.inl _]) dL_law_718 wq_158 wq_159 wq_160 yl_X11_sentence mc_X11 (by decide) rfl (by decide) rfl (Nat.le_refl 1) (sp_X11_sentence hZ1 I.2.2 (fun M2 hZ2 hof2 => ⟨_, rfl, ?_⟩))
  refine lq_eq (tgt := 937) hC dL_law_721 (by decide) rfl ?_
  exact next M2 F ⟨lq_frX hof2 hX1, hZ2, I.2.2⟩
set_option maxRecDepth 100000 in
theorem lq_case_20 (hC : lq_C p l e s m below meth c b L xs D cA ad) (hi : i + 5 ≤ L) (I : lq_I M F) (next : ∀ M' F', lq_I M' F' → lq_G p l e s m below meth c b D cA ad 937 [] M' i) : lq_G p l e s m below meth c b D cA ad 726 [] M i := by -- quote
  refine lq_a1 hC dL_law_726 ?_
  refine lq_arg (kk := 1) hC dL_law_727 dL_law_728 dL_law_729 dL_law_730 dL_law_731 (by omega) ?_
  refine lq_arg (kk := 2) hC dL_law_732 dL_law_733 dL_law_734 dL_law_735 dL_law_736 (by omega) ?_
  refine lq_call hC (as := [.inl (lq_x xs (i + 1)), .inl (lq_x xs (i + 2))]) (st' := []) dL_law_737 wq_162 wq_163 wq_164 yl_X10_quote mc_X10 (by decide) rfl (by decide) rfl (Nat.zero_le 1) (sp_X10_quote I.1 I.2.2 (fun M1 hX1 hof1 => ⟨_, rfl, ?_⟩))
  have hZ1 := lq_frZ hof1 I.2.1
  refine lq_a2 hC dL_law_740 ?_
  refine lq_arg (kk := 1) hC dL_law_741 dL_law_742 dL_law_743 dL_law_744 dL_law_745 (by omega) ?_
  refine lq_arg (kk := 2) hC dL_law_746 dL_law_747 dL_law_748 dL_law_749 dL_law_750 (by omega) ?_
  refine lq_call hC (as := [.inl (lq_x xs (i + 1)), .inl (lq_x xs (i + 2))]) (st' := [.inl _]) dL_law_751 wq_166 wq_167 wq_168 yl_X11_quote mc_X11 (by decide) rfl (by decide) rfl (Nat.le_refl 1) (sp_X11_quote hZ1 I.2.2 (fun M2 hZ2 hof2 => ⟨_, rfl, ?_⟩))
  refine lq_eq (tgt := 937) hC dL_law_754 (by decide) rfl ?_
  exact next M2 F ⟨lq_frX hof2 hX1, hZ2, I.2.2⟩
set_option maxRecDepth 100000 in
theorem lq_case_21 (hC : lq_C p l e s m below meth c b L xs D cA ad) (hi : i + 5 ≤ L) (I : lq_I M F) (next : ∀ M' F', lq_I M' F' → lq_G p l e s m below meth c b D cA ad 937 [] M' i) : lq_G p l e s m below meth c b D cA ad 759 [] M i := by -- module
  refine lq_a1 hC dL_law_759 ?_
  refine lq_arg (kk := 1) hC dL_law_760 dL_law_761 dL_law_762 dL_law_763 dL_law_764 (by omega) ?_
  refine lq_call hC (as := [.inl (lq_x xs (i + 1))]) (st' := []) dL_law_765 wq_170 wq_171 wq_172 yl_X10_module mc_X10 (by decide) rfl (by decide) rfl (Nat.zero_le 1) (sp_X10_module I.1 I.2.2 (fun M1 hX1 hof1 => ⟨_, rfl, ?_⟩))
  have hZ1 := lq_frZ hof1 I.2.1
  refine lq_a2 hC dL_law_768 ?_
  refine lq_arg (kk := 1) hC dL_law_769 dL_law_770 dL_law_771 dL_law_772 dL_law_773 (by omega) ?_
  refine lq_call hC (as := [.inl (lq_x xs (i + 1))]) (st' := [.inl _]) dL_law_774 wq_174 wq_175 wq_176 yl_X11_module mc_X11 (by decide) rfl (by decide) rfl (Nat.le_refl 1) (sp_X11_module hZ1 I.2.2 (fun M2 hZ2 hof2 => ⟨_, rfl, ?_⟩))
  refine lq_eq (tgt := 937) hC dL_law_777 (by decide) rfl ?_
  exact next M2 F ⟨lq_frX hof2 hX1, hZ2, I.2.2⟩
set_option maxRecDepth 100000 in
theorem lq_case_22 (hC : lq_C p l e s m below meth c b L xs D cA ad) (hi : i + 5 ≤ L) (I : lq_I M F) (next : ∀ M' F', lq_I M' F' → lq_G p l e s m below meth c b D cA ad 937 [] M' i) : lq_G p l e s m below meth c b D cA ad 782 [] M i := by -- page
  refine lq_a1 hC dL_law_782 ?_
  refine lq_arg (kk := 1) hC dL_law_783 dL_law_784 dL_law_785 dL_law_786 dL_law_787 (by omega) ?_
  refine lq_arg (kk := 2) hC dL_law_788 dL_law_789 dL_law_790 dL_law_791 dL_law_792 (by omega) ?_
  refine lq_call hC (as := [.inl (lq_x xs (i + 1)), .inl (lq_x xs (i + 2))]) (st' := []) dL_law_793 wq_178 wq_179 wq_180 yl_X10_page mc_X10 (by decide) rfl (by decide) rfl (Nat.zero_le 1) (sp_X10_page I.1 I.2.2 (fun M1 hX1 hof1 => ⟨_, rfl, ?_⟩))
  have hZ1 := lq_frZ hof1 I.2.1
  refine lq_a2 hC dL_law_796 ?_
  refine lq_arg (kk := 1) hC dL_law_797 dL_law_798 dL_law_799 dL_law_800 dL_law_801 (by omega) ?_
  refine lq_arg (kk := 2) hC dL_law_802 dL_law_803 dL_law_804 dL_law_805 dL_law_806 (by omega) ?_
  refine lq_call hC (as := [.inl (lq_x xs (i + 1)), .inl (lq_x xs (i + 2))]) (st' := [.inl _]) dL_law_807 wq_182 wq_183 wq_184 yl_X11_page mc_X11 (by decide) rfl (by decide) rfl (Nat.le_refl 1) (sp_X11_page hZ1 I.2.2 (fun M2 hZ2 hof2 => ⟨_, rfl, ?_⟩))
  refine lq_eq (tgt := 937) hC dL_law_810 (by decide) rfl ?_
  exact next M2 F ⟨lq_frX hof2 hX1, hZ2, I.2.2⟩
set_option maxRecDepth 100000 in
theorem lq_case_23 (hC : lq_C p l e s m below meth c b L xs D cA ad) (hi : i + 5 ≤ L) (I : lq_I M F) (next : ∀ M' F', lq_I M' F' → lq_G p l e s m below meth c b D cA ad 937 [] M' i) : lq_G p l e s m below meth c b D cA ad 815 [] M i := by -- refusal
  refine lq_a1 hC dL_law_815 ?_
  refine lq_arg (kk := 1) hC dL_law_816 dL_law_817 dL_law_818 dL_law_819 dL_law_820 (by omega) ?_
  refine lq_arg (kk := 2) hC dL_law_821 dL_law_822 dL_law_823 dL_law_824 dL_law_825 (by omega) ?_
  refine lq_arg (kk := 3) hC dL_law_826 dL_law_827 dL_law_828 dL_law_829 dL_law_830 (by omega) ?_
  refine lq_arg (kk := 4) hC dL_law_831 dL_law_832 dL_law_833 dL_law_834 dL_law_835 (by omega) ?_
  refine lq_call hC (as := [.inl (lq_x xs (i + 1)), .inl (lq_x xs (i + 2)), .inl (lq_x xs (i + 3)), .inl (lq_x xs (i + 4))]) (st' := []) dL_law_836 wq_186 wq_187 wq_188 yl_X10_refusal mc_X10 (by decide) rfl (by decide) rfl (Nat.zero_le 1) (sp_X10_refusal I.1 I.2.2 (fun M1 hX1 hof1 => ⟨_, rfl, ?_⟩))
  have hZ1 := lq_frZ hof1 I.2.1
  refine lq_a2 hC dL_law_839 ?_
  refine lq_arg (kk := 1) hC dL_law_840 dL_law_841 dL_law_842 dL_law_843 dL_law_844 (by omega) ?_
  refine lq_arg (kk := 2) hC dL_law_845 dL_law_846 dL_law_847 dL_law_848 dL_law_849 (by omega) ?_
  refine lq_arg (kk := 3) hC dL_law_850 dL_law_851 dL_law_852 dL_law_853 dL_law_854 (by omega) ?_
  refine lq_arg (kk := 4) hC dL_law_855 dL_law_856 dL_law_857 dL_law_858 dL_law_859 (by omega) ?_
  refine lq_call hC (as := [.inl (lq_x xs (i + 1)), .inl (lq_x xs (i + 2)), .inl (lq_x xs (i + 3)), .inl (lq_x xs (i + 4))]) (st' := [.inl _]) dL_law_860 wq_190 wq_191 wq_192 yl_X11_refusal mc_X11 (by decide) rfl (by decide) rfl (Nat.le_refl 1) (sp_X11_refusal hZ1 I.2.2 (fun M2 hZ2 hof2 => ⟨_, rfl, ?_⟩))
  refine lq_eq (tgt := 937) hC dL_law_863 (by decide) rfl ?_
  exact next M2 F ⟨lq_frX hof2 hX1, hZ2, I.2.2⟩
set_option maxRecDepth 100000 in
theorem lq_case_24 (hC : lq_C p l e s m below meth c b L xs D cA ad) (hi : i + 5 ≤ L) (I : lq_I M F) (next : ∀ M' F', lq_I M' F' → lq_G p l e s m below meth c b D cA ad 937 [] M' i) : lq_G p l e s m below meth c b D cA ad 868 [] M i := by -- bestPlace
  refine lq_a1 hC dL_law_868 ?_
  refine lq_arg (kk := 1) hC dL_law_869 dL_law_870 dL_law_871 dL_law_872 dL_law_873 (by omega) ?_
  refine lq_arg (kk := 2) hC dL_law_874 dL_law_875 dL_law_876 dL_law_877 dL_law_878 (by omega) ?_
  refine lq_call hC (as := [.inl (lq_x xs (i + 1)), .inl (lq_x xs (i + 2))]) (st' := []) dL_law_879 wq_194 wq_195 wq_196 yl_X10_bestPlace mc_X10 (by decide) rfl (by decide) rfl (Nat.zero_le 1) (sp_X10_bestPlace I.1 I.2.2 (fun M1 hX1 hof1 => ⟨_, rfl, ?_⟩))
  have hZ1 := lq_frZ hof1 I.2.1
  refine lq_a2 hC dL_law_882 ?_
  refine lq_arg (kk := 1) hC dL_law_883 dL_law_884 dL_law_885 dL_law_886 dL_law_887 (by omega) ?_
  refine lq_arg (kk := 2) hC dL_law_888 dL_law_889 dL_law_890 dL_law_891 dL_law_892 (by omega) ?_
  refine lq_call hC (as := [.inl (lq_x xs (i + 1)), .inl (lq_x xs (i + 2))]) (st' := [.inl _]) dL_law_893 wq_198 wq_199 wq_200 yl_X11_bestPlace mc_X11 (by decide) rfl (by decide) rfl (Nat.le_refl 1) (sp_X11_bestPlace hZ1 I.2.2 (fun M2 hZ2 hof2 => ⟨_, rfl, ?_⟩))
  refine lq_eq (tgt := 937) hC dL_law_896 (by decide) rfl ?_
  exact next M2 F ⟨lq_frX hof2 hX1, hZ2, I.2.2⟩
set_option maxRecDepth 100000 in
theorem lq_case_25 (hC : lq_C p l e s m below meth c b L xs D cA ad) (hi : i + 5 ≤ L) (I : lq_I M F) (next : ∀ M' F', lq_I M' F' → lq_G p l e s m below meth c b D cA ad 937 [] M' i) : lq_G p l e s m below meth c b D cA ad 901 [] M i := by -- troubled
  refine lq_a1 hC dL_law_901 ?_
  refine lq_call hC (as := []) (st' := []) dL_law_902 wq_202 wq_203 wq_204 yl_X10_troubled mc_X10 (by decide) rfl (by decide) rfl (Nat.zero_le 1) (sp_X10_troubled I.1 I.2.2 (fun M1 hX1 hof1 => ⟨_, rfl, ?_⟩))
  have hZ1 := lq_frZ hof1 I.2.1
  refine lq_a2 hC dL_law_905 ?_
  refine lq_call hC (as := []) (st' := [.inl _]) dL_law_906 wq_206 wq_207 wq_208 yl_X11_troubled mc_X11 (by decide) rfl (by decide) rfl (Nat.le_refl 1) (sp_X11_troubled hZ1 I.2.2 (fun M2 hZ2 hof2 => ⟨_, rfl, ?_⟩))
  refine lq_eq (tgt := 937) hC dL_law_909 (by decide) rfl ?_
  exact next M2 F ⟨lq_frX hof2 hX1, hZ2, I.2.2⟩
set_option maxRecDepth 100000 in
theorem lq_case_26 (hC : lq_C p l e s m below meth c b L xs D cA ad) (hi : i + 5 ≤ L) (I : lq_I M F) (next : ∀ M' F', lq_I M' F' → lq_G p l e s m below meth c b D cA ad 937 [] M' i) : lq_G p l e s m below meth c b D cA ad 914 [] M i := by -- roomFor
  refine lq_a1 hC dL_law_914 ?_
  refine lq_arg (kk := 1) hC dL_law_915 dL_law_916 dL_law_917 dL_law_918 dL_law_919 (by omega) ?_
  refine lq_call hC (as := [.inl (lq_x xs (i + 1))]) (st' := []) dL_law_920 wq_210 wq_211 wq_212 yl_X10_roomFor mc_X10 (by decide) rfl (by decide) rfl (Nat.zero_le 1) (sp_X10_roomFor I.1 I.2.2 (fun M1 x1 hr1 hX1 hof1 => ⟨_, rfl, ?_⟩))
  have hZ1 := lq_frZ hof1 I.2.1
  refine lq_a2 hC dL_law_923 ?_
  refine lq_arg (kk := 1) hC dL_law_924 dL_law_925 dL_law_926 dL_law_927 dL_law_928 (by omega) ?_
  refine lq_call hC (as := [.inl (lq_x xs (i + 1))]) (st' := [.inl _]) dL_law_929 wq_214 wq_215 wq_216 yl_X11_roomFor mc_X11 (by decide) rfl (by decide) rfl (Nat.le_refl 1) (sp_X11_roomFor hZ1 I.2.2 (fun M2 x2 hr2 hZ2 hof2 => ⟨_, rfl, ?_⟩))
  refine lq_eq (tgt := 937) hC dL_law_932 (by decide) (is_room_eq hr1 hr2) ?_
  exact next M2 F ⟨lq_frX hof2 hX1, hZ2, I.2.2⟩
end LQC
