set_option maxRecDepth 20000 in
theorem lw_case0 {α : Type} {x : hf_Cx} {A : Nat → Prop} {E : State → Prop} {adc adm adK adV : Nat → Nat} {ca cm : Nat → ClassId} {l0 : Launch} {D0 : va_G} {z : Nat × Nat} {Q : α → State → Prop} {K : Option α} (g : lw_G x A E adc adm ca cm l0 D0) (hq : hc_need E adc adK adV) {b L : Nat} {xs : Nat → Int32} (hX : lw_X x b L xs) (hL : L ≤ 3072) (hz : z.1 ≤ 600000 ∧ z.2 ≤ 7302250) {i : Nat} (hi : i + 6 ≤ L) {σc σm : hf_St} (h : hr σc σm) (kb : ∀ σc σm, hr σc σm → hf_X x A 4 z Q K (hf_wd hcT adc ca σc ++ hf_wd hmT adm cm σm) 963 (lw_lv b adc adm i) []) : hf_X x A 4 z Q K (hf_wd hcT adc ca σc ++ hf_wd hmT adm cm σm) 140 (lw_lv b adc adm i) [] := by
  have gc := g.1
  obtain ⟨r, σc', σm', e1, e2, h'⟩ := hr_clock h (xs (i + 1))
  refine hf_aload_n (i := 1) (q := 1) gc dL_law_140 rfl rfl ?_
  refine lw_arg g hX (j := 1) hL (by omega) 142 143 144 145 146 rfl rfl rfl rfl rfl dL_law_141 dL_law_142 dL_law_143 dL_law_144 dL_law_145 (by decide) ?_
  refine lw_callL g (As := [.int (xs (i + 1))]) (st := []) (n := 1) e1 (cc_hf_clock (a1 := xs (i + 1))) kV_RL_13 (by decide) (by decide) rfl rfl (Nat.le_of_ble_eq_true rfl) dL_law_146 hz ?_
  refine hf_aload_n (i := 2) (q := 2) gc dL_law_149 rfl rfl ?_
  refine lw_arg g hX (j := 1) hL (by omega) 151 152 153 154 155 rfl rfl rfl rfl rfl dL_law_150 dL_law_151 dL_law_152 dL_law_153 dL_law_154 (by decide) ?_
  refine lw_callR g (As := [.int (xs (i + 1))]) (st := [.int r]) (n := 1) e2 (cm_md_clock (a1 := xs (i + 1))) kV_RL_17 (by decide) (by decide) rfl rfl (Nat.le_of_ble_eq_true rfl) dL_law_155 hz ?_
  refine lw_eq (a := r) (st := []) gc (tgt := 963) dL_law_158 (by decide) ?_
  exact kb σc' σm' h'
set_option maxRecDepth 20000 in
theorem lw_case1 {α : Type} {x : hf_Cx} {A : Nat → Prop} {E : State → Prop} {adc adm adK adV : Nat → Nat} {ca cm : Nat → ClassId} {l0 : Launch} {D0 : va_G} {z : Nat × Nat} {Q : α → State → Prop} {K : Option α} (g : lw_G x A E adc adm ca cm l0 D0) (hq : hc_need E adc adK adV) {b L : Nat} {xs : Nat → Int32} (hX : lw_X x b L xs) (hL : L ≤ 3072) (hz : z.1 ≤ 600000 ∧ z.2 ≤ 7302250) {i : Nat} (hi : i + 6 ≤ L) {σc σm : hf_St} (h : hr σc σm) (kb : ∀ σc σm, hr σc σm → hf_X x A 4 z Q K (hf_wd hcT adc ca σc ++ hf_wd hmT adm cm σm) 963 (lw_lv b adc adm i) []) : hf_X x A 4 z Q K (hf_wd hcT adc ca σc ++ hf_wd hmT adm cm σm) 163 (lw_lv b adc adm i) [] := by
  have gc := g.1
  obtain ⟨r, σc', σm', e1, e2, h'⟩ := hr_child h (xs (i + 1))
  refine hf_aload_n (i := 1) (q := 1) gc dL_law_163 rfl rfl ?_
  refine lw_arg g hX (j := 1) hL (by omega) 165 166 167 168 169 rfl rfl rfl rfl rfl dL_law_164 dL_law_165 dL_law_166 dL_law_167 dL_law_168 (by decide) ?_
  refine lw_callL g (As := [.int (xs (i + 1))]) (st := []) (n := 1) e1 (cc_hf_child (a1 := xs (i + 1))) kV_RL_18 (by decide) (by decide) rfl rfl (Nat.le_of_ble_eq_true rfl) dL_law_169 hz ?_
  refine hf_aload_n (i := 2) (q := 2) gc dL_law_172 rfl rfl ?_
  refine lw_arg g hX (j := 1) hL (by omega) 174 175 176 177 178 rfl rfl rfl rfl rfl dL_law_173 dL_law_174 dL_law_175 dL_law_176 dL_law_177 (by decide) ?_
  refine lw_callR g (As := [.int (xs (i + 1))]) (st := [.int r]) (n := 1) e2 (cm_md_child (a1 := xs (i + 1))) kV_RL_22 (by decide) (by decide) rfl rfl (Nat.le_of_ble_eq_true rfl) dL_law_178 hz ?_
  refine lw_eq (a := r) (st := []) gc (tgt := 963) dL_law_181 (by decide) ?_
  exact kb σc' σm' h'
set_option maxRecDepth 20000 in
theorem lw_case2 {α : Type} {x : hf_Cx} {A : Nat → Prop} {E : State → Prop} {adc adm adK adV : Nat → Nat} {ca cm : Nat → ClassId} {l0 : Launch} {D0 : va_G} {z : Nat × Nat} {Q : α → State → Prop} {K : Option α} (g : lw_G x A E adc adm ca cm l0 D0) (hq : hc_need E adc adK adV) {b L : Nat} {xs : Nat → Int32} (hX : lw_X x b L xs) (hL : L ≤ 3072) (hz : z.1 ≤ 600000 ∧ z.2 ≤ 7302250) {i : Nat} (hi : i + 6 ≤ L) {σc σm : hf_St} (h : hr σc σm) (kb : ∀ σc σm, hr σc σm → hf_X x A 4 z Q K (hf_wd hcT adc ca σc ++ hf_wd hmT adm cm σm) 963 (lw_lv b adc adm i) []) : hf_X x A 4 z Q K (hf_wd hcT adc ca σc ++ hf_wd hmT adm cm σm) 186 (lw_lv b adc adm i) [] := by
  have gc := g.1
  obtain ⟨r, σc', σm', e1, e2, h'⟩ := hr_home h (xs (i + 1))
  refine hf_aload_n (i := 1) (q := 1) gc dL_law_186 rfl rfl ?_
  refine lw_arg g hX (j := 1) hL (by omega) 188 189 190 191 192 rfl rfl rfl rfl rfl dL_law_187 dL_law_188 dL_law_189 dL_law_190 dL_law_191 (by decide) ?_
  refine lw_callL g (As := [.int (xs (i + 1))]) (st := []) (n := 1) e1 (cc_hf_home (a1 := xs (i + 1))) kV_RL_23 (by decide) (by decide) rfl rfl (Nat.le_of_ble_eq_true rfl) dL_law_192 hz ?_
  refine hf_aload_n (i := 2) (q := 2) gc dL_law_195 rfl rfl ?_
  refine lw_arg g hX (j := 1) hL (by omega) 197 198 199 200 201 rfl rfl rfl rfl rfl dL_law_196 dL_law_197 dL_law_198 dL_law_199 dL_law_200 (by decide) ?_
  refine lw_callR g (As := [.int (xs (i + 1))]) (st := [.int r]) (n := 1) e2 (cm_md_home (a1 := xs (i + 1))) kV_RL_26 (by decide) (by decide) rfl rfl (Nat.le_of_ble_eq_true rfl) dL_law_201 hz ?_
  refine lw_eq (a := r) (st := []) gc (tgt := 963) dL_law_204 (by decide) ?_
  exact kb σc' σm' h'
set_option maxRecDepth 20000 in
theorem lw_case3 {α : Type} {x : hf_Cx} {A : Nat → Prop} {E : State → Prop} {adc adm adK adV : Nat → Nat} {ca cm : Nat → ClassId} {l0 : Launch} {D0 : va_G} {z : Nat × Nat} {Q : α → State → Prop} {K : Option α} (g : lw_G x A E adc adm ca cm l0 D0) (hq : hc_need E adc adK adV) {b L : Nat} {xs : Nat → Int32} (hX : lw_X x b L xs) (hL : L ≤ 3072) (hz : z.1 ≤ 600000 ∧ z.2 ≤ 7302250) {i : Nat} (hi : i + 6 ≤ L) {σc σm : hf_St} (h : hr σc σm) (kb : ∀ σc σm, hr σc σm → hf_X x A 4 z Q K (hf_wd hcT adc ca σc ++ hf_wd hmT adm cm σm) 963 (lw_lv b adc adm i) []) : hf_X x A 4 z Q K (hf_wd hcT adc ca σc ++ hf_wd hmT adm cm σm) 209 (lw_lv b adc adm i) [] := by
  have gc := g.1
  obtain ⟨r, σc', σm', e1, e2, h'⟩ := hr_fact h (if xs (i + 1) = 0 then (0 : Int32) else 1) (xs (i + 2)) (xs (i + 3)) (xs (i + 4)) (xs (i + 5)) (lw_b01 _)
  refine hf_aload_n (i := 1) (q := 1) gc dL_law_209 rfl rfl ?_
  refine lw_arg g hX (j := 1) hL (by omega) 211 212 213 214 215 rfl rfl rfl rfl rfl dL_law_210 dL_law_211 dL_law_212 dL_law_213 dL_law_214 (by decide) ?_
  refine lw_bool gc (pc1 := 218) (pc2 := 219) (pc3 := 222) (pc4 := 223) rfl rfl rfl rfl dL_law_215 dL_law_218 dL_law_219 dL_law_222 ?_
  refine lw_arg g hX (j := 2) hL (by omega) 224 225 226 227 228 rfl rfl rfl rfl rfl dL_law_223 dL_law_224 dL_law_225 dL_law_226 dL_law_227 (by decide) ?_
  refine lw_arg g hX (j := 3) hL (by omega) 229 230 231 232 233 rfl rfl rfl rfl rfl dL_law_228 dL_law_229 dL_law_230 dL_law_231 dL_law_232 (by decide) ?_
  refine lw_arg g hX (j := 4) hL (by omega) 234 235 236 237 238 rfl rfl rfl rfl rfl dL_law_233 dL_law_234 dL_law_235 dL_law_236 dL_law_237 (by decide) ?_
  refine lw_arg g hX (j := 5) hL (by omega) 239 240 241 242 243 rfl rfl rfl rfl rfl dL_law_238 dL_law_239 dL_law_240 dL_law_241 dL_law_242 (by decide) ?_
  refine lw_callL g (As := [.int (if xs (i + 1) = 0 then (0 : Int32) else 1), .int (xs (i + 2)), .int (xs (i + 3)), .int (xs (i + 4)), .int (xs (i + 5))]) (st := []) (n := 5) e1 (cc_hf_fact (a1 := (if xs (i + 1) = 0 then (0 : Int32) else 1)) (a2 := xs (i + 2)) (a3 := xs (i + 3)) (a4 := xs (i + 4)) (a5 := xs (i + 5))) kV_RL_27 (by decide) (by decide) rfl rfl (Nat.le_of_ble_eq_true rfl) dL_law_243 hz ?_
  refine hf_aload_n (i := 2) (q := 2) gc dL_law_246 rfl rfl ?_
  refine lw_arg g hX (j := 1) hL (by omega) 248 249 250 251 252 rfl rfl rfl rfl rfl dL_law_247 dL_law_248 dL_law_249 dL_law_250 dL_law_251 (by decide) ?_
  refine lw_bool gc (pc1 := 255) (pc2 := 256) (pc3 := 259) (pc4 := 260) rfl rfl rfl rfl dL_law_252 dL_law_255 dL_law_256 dL_law_259 ?_
  refine lw_arg g hX (j := 2) hL (by omega) 261 262 263 264 265 rfl rfl rfl rfl rfl dL_law_260 dL_law_261 dL_law_262 dL_law_263 dL_law_264 (by decide) ?_
  refine lw_arg g hX (j := 3) hL (by omega) 266 267 268 269 270 rfl rfl rfl rfl rfl dL_law_265 dL_law_266 dL_law_267 dL_law_268 dL_law_269 (by decide) ?_
  refine lw_arg g hX (j := 4) hL (by omega) 271 272 273 274 275 rfl rfl rfl rfl rfl dL_law_270 dL_law_271 dL_law_272 dL_law_273 dL_law_274 (by decide) ?_
  refine lw_arg g hX (j := 5) hL (by omega) 276 277 278 279 280 rfl rfl rfl rfl rfl dL_law_275 dL_law_276 dL_law_277 dL_law_278 dL_law_279 (by decide) ?_
  refine lw_callR g (As := [.int (if xs (i + 1) = 0 then (0 : Int32) else 1), .int (xs (i + 2)), .int (xs (i + 3)), .int (xs (i + 4)), .int (xs (i + 5))]) (st := [.int r]) (n := 5) e2 (cm_md_fact (a1 := (if xs (i + 1) = 0 then (0 : Int32) else 1)) (a2 := xs (i + 2)) (a3 := xs (i + 3)) (a4 := xs (i + 4)) (a5 := xs (i + 5))) kV_RL_31 (by decide) (by decide) rfl rfl (Nat.le_of_ble_eq_true rfl) dL_law_280 hz ?_
  refine lw_eq (a := r) (st := []) gc (tgt := 963) dL_law_283 (by decide) ?_
  exact kb σc' σm' h'
set_option maxRecDepth 20000 in
theorem lw_case4 {α : Type} {x : hf_Cx} {A : Nat → Prop} {E : State → Prop} {adc adm adK adV : Nat → Nat} {ca cm : Nat → ClassId} {l0 : Launch} {D0 : va_G} {z : Nat × Nat} {Q : α → State → Prop} {K : Option α} (g : lw_G x A E adc adm ca cm l0 D0) (hq : hc_need E adc adK adV) {b L : Nat} {xs : Nat → Int32} (hX : lw_X x b L xs) (hL : L ≤ 3072) (hz : z.1 ≤ 600000 ∧ z.2 ≤ 7302250) {i : Nat} (hi : i + 6 ≤ L) {σc σm : hf_St} (h : hr σc σm) (kb : ∀ σc σm, hr σc σm → hf_X x A 4 z Q K (hf_wd hcT adc ca σc ++ hf_wd hmT adm cm σm) 963 (lw_lv b adc adm i) []) : hf_X x A 4 z Q K (hf_wd hcT adc ca σc ++ hf_wd hmT adm cm σm) 288 (lw_lv b adc adm i) [] := by
  have gc := g.1
  obtain ⟨r, e1, e2⟩ := hr_value h (if xs (i + 1) = 0 then (0 : Int32) else 1) (xs (i + 2)) (xs (i + 3)) (xs (i + 4)) (xs (i + 5)) (lw_b01 _)
  refine hf_aload_n (i := 1) (q := 1) gc dL_law_288 rfl rfl ?_
  refine lw_arg g hX (j := 1) hL (by omega) 290 291 292 293 294 rfl rfl rfl rfl rfl dL_law_289 dL_law_290 dL_law_291 dL_law_292 dL_law_293 (by decide) ?_
  refine lw_bool gc (pc1 := 297) (pc2 := 298) (pc3 := 301) (pc4 := 302) rfl rfl rfl rfl dL_law_294 dL_law_297 dL_law_298 dL_law_301 ?_
  refine lw_arg g hX (j := 2) hL (by omega) 303 304 305 306 307 rfl rfl rfl rfl rfl dL_law_302 dL_law_303 dL_law_304 dL_law_305 dL_law_306 (by decide) ?_
  refine lw_arg g hX (j := 3) hL (by omega) 308 309 310 311 312 rfl rfl rfl rfl rfl dL_law_307 dL_law_308 dL_law_309 dL_law_310 dL_law_311 (by decide) ?_
  refine lw_arg g hX (j := 4) hL (by omega) 313 314 315 316 317 rfl rfl rfl rfl rfl dL_law_312 dL_law_313 dL_law_314 dL_law_315 dL_law_316 (by decide) ?_
  refine lw_arg g hX (j := 5) hL (by omega) 318 319 320 321 322 rfl rfl rfl rfl rfl dL_law_317 dL_law_318 dL_law_319 dL_law_320 dL_law_321 (by decide) ?_
  refine lw_callL g (As := [.int (if xs (i + 1) = 0 then (0 : Int32) else 1), .int (xs (i + 2)), .int (xs (i + 3)), .int (xs (i + 4)), .int (xs (i + 5))]) (st := []) (n := 5) e1 (cc_hf_value (a1 := (if xs (i + 1) = 0 then (0 : Int32) else 1)) (a2 := xs (i + 2)) (a3 := xs (i + 3)) (a4 := xs (i + 4)) (a5 := xs (i + 5))) kV_RL_32 (by decide) (by decide) rfl rfl (Nat.le_of_ble_eq_true rfl) dL_law_322 hz ?_
  refine hf_aload_n (i := 2) (q := 2) gc dL_law_325 rfl rfl ?_
  refine lw_arg g hX (j := 1) hL (by omega) 327 328 329 330 331 rfl rfl rfl rfl rfl dL_law_326 dL_law_327 dL_law_328 dL_law_329 dL_law_330 (by decide) ?_
  refine lw_bool gc (pc1 := 334) (pc2 := 335) (pc3 := 338) (pc4 := 339) rfl rfl rfl rfl dL_law_331 dL_law_334 dL_law_335 dL_law_338 ?_
  refine lw_arg g hX (j := 2) hL (by omega) 340 341 342 343 344 rfl rfl rfl rfl rfl dL_law_339 dL_law_340 dL_law_341 dL_law_342 dL_law_343 (by decide) ?_
  refine lw_arg g hX (j := 3) hL (by omega) 345 346 347 348 349 rfl rfl rfl rfl rfl dL_law_344 dL_law_345 dL_law_346 dL_law_347 dL_law_348 (by decide) ?_
  refine lw_arg g hX (j := 4) hL (by omega) 350 351 352 353 354 rfl rfl rfl rfl rfl dL_law_349 dL_law_350 dL_law_351 dL_law_352 dL_law_353 (by decide) ?_
  refine lw_arg g hX (j := 5) hL (by omega) 355 356 357 358 359 rfl rfl rfl rfl rfl dL_law_354 dL_law_355 dL_law_356 dL_law_357 dL_law_358 (by decide) ?_
  refine lw_callR g (As := [.int (if xs (i + 1) = 0 then (0 : Int32) else 1), .int (xs (i + 2)), .int (xs (i + 3)), .int (xs (i + 4)), .int (xs (i + 5))]) (st := [.int r]) (n := 5) e2 (cm_md_value (a1 := (if xs (i + 1) = 0 then (0 : Int32) else 1)) (a2 := xs (i + 2)) (a3 := xs (i + 3)) (a4 := xs (i + 4)) (a5 := xs (i + 5))) kV_RL_35 (by decide) (by decide) rfl rfl (Nat.le_of_ble_eq_true rfl) dL_law_359 hz ?_
  refine lw_eq (a := r) (st := []) gc (tgt := 963) dL_law_362 (by decide) ?_
  exact kb σc σm h
set_option maxRecDepth 20000 in
theorem lw_case5 {α : Type} {x : hf_Cx} {A : Nat → Prop} {E : State → Prop} {adc adm adK adV : Nat → Nat} {ca cm : Nat → ClassId} {l0 : Launch} {D0 : va_G} {z : Nat × Nat} {Q : α → State → Prop} {K : Option α} (g : lw_G x A E adc adm ca cm l0 D0) (hq : hc_need E adc adK adV) {b L : Nat} {xs : Nat → Int32} (hX : lw_X x b L xs) (hL : L ≤ 3072) (hz : z.1 ≤ 600000 ∧ z.2 ≤ 7302250) {i : Nat} (hi : i + 6 ≤ L) {σc σm : hf_St} (h : hr σc σm) (kb : ∀ σc σm, hr σc σm → hf_X x A 4 z Q K (hf_wd hcT adc ca σc ++ hf_wd hmT adm cm σm) 963 (lw_lv b adc adm i) []) : hf_X x A 4 z Q K (hf_wd hcT adc ca σc ++ hf_wd hmT adm cm σm) 367 (lw_lv b adc adm i) [] := by
  have gc := g.1
  obtain ⟨r, σc', σm', e1, e2, h'⟩ := hr_paper h (xs (i + 1)) (xs (i + 2)) (xs (i + 3))
  refine hf_aload_n (i := 1) (q := 1) gc dL_law_367 rfl rfl ?_
  refine lw_arg g hX (j := 1) hL (by omega) 369 370 371 372 373 rfl rfl rfl rfl rfl dL_law_368 dL_law_369 dL_law_370 dL_law_371 dL_law_372 (by decide) ?_
  refine lw_arg g hX (j := 2) hL (by omega) 374 375 376 377 378 rfl rfl rfl rfl rfl dL_law_373 dL_law_374 dL_law_375 dL_law_376 dL_law_377 (by decide) ?_
  refine lw_arg g hX (j := 3) hL (by omega) 379 380 381 382 383 rfl rfl rfl rfl rfl dL_law_378 dL_law_379 dL_law_380 dL_law_381 dL_law_382 (by decide) ?_
  refine lw_callL g (As := [.int (xs (i + 1)), .int (xs (i + 2)), .int (xs (i + 3))]) (st := []) (n := 3) e1 (cc_hf_paper (a1 := xs (i + 1)) (a2 := xs (i + 2)) (a3 := xs (i + 3))) kV_RL_36 (by decide) (by decide) rfl rfl (Nat.le_of_ble_eq_true rfl) dL_law_383 hz ?_
  refine hf_aload_n (i := 2) (q := 2) gc dL_law_386 rfl rfl ?_
  refine lw_arg g hX (j := 1) hL (by omega) 388 389 390 391 392 rfl rfl rfl rfl rfl dL_law_387 dL_law_388 dL_law_389 dL_law_390 dL_law_391 (by decide) ?_
  refine lw_arg g hX (j := 2) hL (by omega) 393 394 395 396 397 rfl rfl rfl rfl rfl dL_law_392 dL_law_393 dL_law_394 dL_law_395 dL_law_396 (by decide) ?_
  refine lw_arg g hX (j := 3) hL (by omega) 398 399 400 401 402 rfl rfl rfl rfl rfl dL_law_397 dL_law_398 dL_law_399 dL_law_400 dL_law_401 (by decide) ?_
  refine lw_callR g (As := [.int (xs (i + 1)), .int (xs (i + 2)), .int (xs (i + 3))]) (st := [.int r]) (n := 3) e2 (cm_md_paper (a1 := xs (i + 1)) (a2 := xs (i + 2)) (a3 := xs (i + 3))) kV_RL_40 (by decide) (by decide) rfl rfl (Nat.le_of_ble_eq_true rfl) dL_law_402 hz ?_
  refine lw_eq (a := r) (st := []) gc (tgt := 963) dL_law_405 (by decide) ?_
  exact kb σc' σm' h'
set_option maxRecDepth 20000 in
theorem lw_case6 {α : Type} {x : hf_Cx} {A : Nat → Prop} {E : State → Prop} {adc adm adK adV : Nat → Nat} {ca cm : Nat → ClassId} {l0 : Launch} {D0 : va_G} {z : Nat × Nat} {Q : α → State → Prop} {K : Option α} (g : lw_G x A E adc adm ca cm l0 D0) (hq : hc_need E adc adK adV) {b L : Nat} {xs : Nat → Int32} (hX : lw_X x b L xs) (hL : L ≤ 3072) (hz : z.1 ≤ 600000 ∧ z.2 ≤ 7302250) {i : Nat} (hi : i + 6 ≤ L) {σc σm : hf_St} (h : hr σc σm) (kb : ∀ σc σm, hr σc σm → hf_X x A 4 z Q K (hf_wd hcT adc ca σc ++ hf_wd hmT adm cm σm) 963 (lw_lv b adc adm i) []) : hf_X x A 4 z Q K (hf_wd hcT adc ca σc ++ hf_wd hmT adm cm σm) 410 (lw_lv b adc adm i) [] := by
  have gc := g.1
  obtain ⟨r, e1, e2⟩ := hr_until h (xs (i + 1)) (xs (i + 2))
  refine hf_aload_n (i := 1) (q := 1) gc dL_law_410 rfl rfl ?_
  refine lw_arg g hX (j := 1) hL (by omega) 412 413 414 415 416 rfl rfl rfl rfl rfl dL_law_411 dL_law_412 dL_law_413 dL_law_414 dL_law_415 (by decide) ?_
  refine lw_arg g hX (j := 2) hL (by omega) 417 418 419 420 421 rfl rfl rfl rfl rfl dL_law_416 dL_law_417 dL_law_418 dL_law_419 dL_law_420 (by decide) ?_
  refine lw_callL g (As := [.int (xs (i + 1)), .int (xs (i + 2))]) (st := []) (n := 2) e1 (cc_hf_until (a1 := xs (i + 1)) (a2 := xs (i + 2))) kV_RL_41 (by decide) (by decide) rfl rfl (Nat.le_of_ble_eq_true rfl) dL_law_421 hz ?_
  refine hf_aload_n (i := 2) (q := 2) gc dL_law_424 rfl rfl ?_
  refine lw_arg g hX (j := 1) hL (by omega) 426 427 428 429 430 rfl rfl rfl rfl rfl dL_law_425 dL_law_426 dL_law_427 dL_law_428 dL_law_429 (by decide) ?_
  refine lw_arg g hX (j := 2) hL (by omega) 431 432 433 434 435 rfl rfl rfl rfl rfl dL_law_430 dL_law_431 dL_law_432 dL_law_433 dL_law_434 (by decide) ?_
  refine lw_callR g (As := [.int (xs (i + 1)), .int (xs (i + 2))]) (st := [.int r]) (n := 2) e2 (cm_md_until (a1 := xs (i + 1)) (a2 := xs (i + 2))) kV_RL_45 (by decide) (by decide) rfl rfl (Nat.le_of_ble_eq_true rfl) dL_law_435 hz ?_
  refine lw_eq (a := r) (st := []) gc (tgt := 963) dL_law_438 (by decide) ?_
  exact kb σc σm h
set_option maxRecDepth 20000 in
theorem lw_case7 {α : Type} {x : hf_Cx} {A : Nat → Prop} {E : State → Prop} {adc adm adK adV : Nat → Nat} {ca cm : Nat → ClassId} {l0 : Launch} {D0 : va_G} {z : Nat × Nat} {Q : α → State → Prop} {K : Option α} (g : lw_G x A E adc adm ca cm l0 D0) (hq : hc_need E adc adK adV) {b L : Nat} {xs : Nat → Int32} (hX : lw_X x b L xs) (hL : L ≤ 3072) (hz : z.1 ≤ 600000 ∧ z.2 ≤ 7302250) {i : Nat} (hi : i + 6 ≤ L) {σc σm : hf_St} (h : hr σc σm) (kb : ∀ σc σm, hr σc σm → hf_X x A 4 z Q K (hf_wd hcT adc ca σc ++ hf_wd hmT adm cm σm) 963 (lw_lv b adc adm i) []) : hf_X x A 4 z Q K (hf_wd hcT adc ca σc ++ hf_wd hmT adm cm σm) 443 (lw_lv b adc adm i) [] := by
  have gc := g.1
  obtain ⟨r, σc', σm', e1, e2, h'⟩ := hr_close h (xs (i + 1)) (xs (i + 2))
  refine hf_aload_n (i := 1) (q := 1) gc dL_law_443 rfl rfl ?_
  refine lw_arg g hX (j := 1) hL (by omega) 445 446 447 448 449 rfl rfl rfl rfl rfl dL_law_444 dL_law_445 dL_law_446 dL_law_447 dL_law_448 (by decide) ?_
  refine lw_arg g hX (j := 2) hL (by omega) 450 451 452 453 454 rfl rfl rfl rfl rfl dL_law_449 dL_law_450 dL_law_451 dL_law_452 dL_law_453 (by decide) ?_
  refine lw_callL g (As := [.int (xs (i + 1)), .int (xs (i + 2))]) (st := []) (n := 2) e1 (cc_hf_close (a1 := xs (i + 1)) (a2 := xs (i + 2))) kV_RL_46 (by decide) (by decide) rfl rfl (Nat.le_of_ble_eq_true rfl) dL_law_454 hz ?_
  refine hf_aload_n (i := 2) (q := 2) gc dL_law_457 rfl rfl ?_
  refine lw_arg g hX (j := 1) hL (by omega) 459 460 461 462 463 rfl rfl rfl rfl rfl dL_law_458 dL_law_459 dL_law_460 dL_law_461 dL_law_462 (by decide) ?_
  refine lw_arg g hX (j := 2) hL (by omega) 464 465 466 467 468 rfl rfl rfl rfl rfl dL_law_463 dL_law_464 dL_law_465 dL_law_466 dL_law_467 (by decide) ?_
  refine lw_callR g (As := [.int (xs (i + 1)), .int (xs (i + 2))]) (st := [.int r]) (n := 2) e2 (cm_md_close (a1 := xs (i + 1)) (a2 := xs (i + 2))) kV_RL_50 (by decide) (by decide) rfl rfl (Nat.le_of_ble_eq_true rfl) dL_law_468 hz ?_
  refine lw_eq (a := r) (st := []) gc (tgt := 963) dL_law_471 (by decide) ?_
  exact kb σc' σm' h'
set_option maxRecDepth 20000 in
theorem lw_case8 {α : Type} {x : hf_Cx} {A : Nat → Prop} {E : State → Prop} {adc adm adK adV : Nat → Nat} {ca cm : Nat → ClassId} {l0 : Launch} {D0 : va_G} {z : Nat × Nat} {Q : α → State → Prop} {K : Option α} (g : lw_G x A E adc adm ca cm l0 D0) (hq : hc_need E adc adK adV) {b L : Nat} {xs : Nat → Int32} (hX : lw_X x b L xs) (hL : L ≤ 3072) (hz : z.1 ≤ 600000 ∧ z.2 ≤ 7302250) {i : Nat} (hi : i + 6 ≤ L) {σc σm : hf_St} (h : hr σc σm) (kb : ∀ σc σm, hr σc σm → hf_X x A 4 z Q K (hf_wd hcT adc ca σc ++ hf_wd hmT adm cm σm) 963 (lw_lv b adc adm i) []) : hf_X x A 4 z Q K (hf_wd hcT adc ca σc ++ hf_wd hmT adm cm σm) 476 (lw_lv b adc adm i) [] := by
  have gc := g.1
  obtain ⟨r, σc', σm', e1, e2, h'⟩ := hr_need h (xs (i + 1)) (xs (i + 2)) (xs (i + 3)) (if xs (i + 4) = 0 then (0 : Int32) else 1) (lw_b01 _)
  refine hf_aload_n (i := 1) (q := 1) gc dL_law_476 rfl rfl ?_
  refine lw_arg g hX (j := 1) hL (by omega) 478 479 480 481 482 rfl rfl rfl rfl rfl dL_law_477 dL_law_478 dL_law_479 dL_law_480 dL_law_481 (by decide) ?_
  refine lw_arg g hX (j := 2) hL (by omega) 483 484 485 486 487 rfl rfl rfl rfl rfl dL_law_482 dL_law_483 dL_law_484 dL_law_485 dL_law_486 (by decide) ?_
  refine lw_arg g hX (j := 3) hL (by omega) 488 489 490 491 492 rfl rfl rfl rfl rfl dL_law_487 dL_law_488 dL_law_489 dL_law_490 dL_law_491 (by decide) ?_
  refine lw_arg g hX (j := 4) hL (by omega) 493 494 495 496 497 rfl rfl rfl rfl rfl dL_law_492 dL_law_493 dL_law_494 dL_law_495 dL_law_496 (by decide) ?_
  refine lw_bool gc (pc1 := 500) (pc2 := 501) (pc3 := 504) (pc4 := 505) rfl rfl rfl rfl dL_law_497 dL_law_500 dL_law_501 dL_law_504 ?_
  refine lw_callL g (As := [.int (xs (i + 1)), .int (xs (i + 2)), .int (xs (i + 3)), .int (if xs (i + 4) = 0 then (0 : Int32) else 1)]) (st := []) (n := 4) e1 (cc_hf_need (a1 := xs (i + 1)) (a2 := xs (i + 2)) (a3 := xs (i + 3)) (a4 := (if xs (i + 4) = 0 then (0 : Int32) else 1))) kV_RL_51 (by decide) (by decide) rfl rfl (Nat.le_of_ble_eq_true rfl) dL_law_505 hz ?_
  refine hf_aload_n (i := 2) (q := 2) gc dL_law_508 rfl rfl ?_
  refine lw_arg g hX (j := 1) hL (by omega) 510 511 512 513 514 rfl rfl rfl rfl rfl dL_law_509 dL_law_510 dL_law_511 dL_law_512 dL_law_513 (by decide) ?_
  refine lw_arg g hX (j := 2) hL (by omega) 515 516 517 518 519 rfl rfl rfl rfl rfl dL_law_514 dL_law_515 dL_law_516 dL_law_517 dL_law_518 (by decide) ?_
  refine lw_arg g hX (j := 3) hL (by omega) 520 521 522 523 524 rfl rfl rfl rfl rfl dL_law_519 dL_law_520 dL_law_521 dL_law_522 dL_law_523 (by decide) ?_
  refine lw_arg g hX (j := 4) hL (by omega) 525 526 527 528 529 rfl rfl rfl rfl rfl dL_law_524 dL_law_525 dL_law_526 dL_law_527 dL_law_528 (by decide) ?_
  refine lw_bool gc (pc1 := 532) (pc2 := 533) (pc3 := 536) (pc4 := 537) rfl rfl rfl rfl dL_law_529 dL_law_532 dL_law_533 dL_law_536 ?_
  refine lw_callR g (As := [.int (xs (i + 1)), .int (xs (i + 2)), .int (xs (i + 3)), .int (if xs (i + 4) = 0 then (0 : Int32) else 1)]) (st := [.int r]) (n := 4) e2 (cm_md_need (a1 := xs (i + 1)) (a2 := xs (i + 2)) (a3 := xs (i + 3)) (a4 := (if xs (i + 4) = 0 then (0 : Int32) else 1))) kV_RL_55 (by decide) (by decide) rfl rfl (Nat.le_of_ble_eq_true rfl) dL_law_537 hz ?_
  refine lw_eq (a := r) (st := []) gc (tgt := 963) dL_law_540 (by decide) ?_
  exact kb σc' σm' h'
set_option maxRecDepth 20000 in
theorem lw_case9 {α : Type} {x : hf_Cx} {A : Nat → Prop} {E : State → Prop} {adc adm adK adV : Nat → Nat} {ca cm : Nat → ClassId} {l0 : Launch} {D0 : va_G} {z : Nat × Nat} {Q : α → State → Prop} {K : Option α} (g : lw_G x A E adc adm ca cm l0 D0) (hq : hc_need E adc adK adV) {b L : Nat} {xs : Nat → Int32} (hX : lw_X x b L xs) (hL : L ≤ 3072) (hz : z.1 ≤ 600000 ∧ z.2 ≤ 7302250) {i : Nat} (hi : i + 6 ≤ L) {σc σm : hf_St} (h : hr σc σm) (kb : ∀ σc σm, hr σc σm → hf_X x A 4 z Q K (hf_wd hcT adc ca σc ++ hf_wd hmT adm cm σm) 963 (lw_lv b adc adm i) []) : hf_X x A 4 z Q K (hf_wd hcT adc ca σc ++ hf_wd hmT adm cm σm) 545 (lw_lv b adc adm i) [] := by
  have gc := g.1
  obtain ⟨r, σc', σm', e1, e2, h'⟩ := hr_ends h (xs (i + 1))
  refine hf_aload_n (i := 1) (q := 1) gc dL_law_545 rfl rfl ?_
  refine lw_arg g hX (j := 1) hL (by omega) 547 548 549 550 551 rfl rfl rfl rfl rfl dL_law_546 dL_law_547 dL_law_548 dL_law_549 dL_law_550 (by decide) ?_
  refine lw_callL g (As := [.int (xs (i + 1))]) (st := []) (n := 1) e1 (cc_hf_ends (a1 := xs (i + 1))) kV_RL_56 (by decide) (by decide) rfl rfl (Nat.le_of_ble_eq_true rfl) dL_law_551 hz ?_
  refine hf_aload_n (i := 2) (q := 2) gc dL_law_554 rfl rfl ?_
  refine lw_arg g hX (j := 1) hL (by omega) 556 557 558 559 560 rfl rfl rfl rfl rfl dL_law_555 dL_law_556 dL_law_557 dL_law_558 dL_law_559 (by decide) ?_
  refine lw_callR g (As := [.int (xs (i + 1))]) (st := [.int r]) (n := 1) e2 (cm_md_ends (a1 := xs (i + 1))) kV_RL_59 (by decide) (by decide) rfl rfl (Nat.le_of_ble_eq_true rfl) dL_law_560 hz ?_
  refine lw_eq (a := r) (st := []) gc (tgt := 963) dL_law_563 (by decide) ?_
  exact kb σc' σm' h'
set_option maxRecDepth 20000 in
theorem lw_case10 {α : Type} {x : hf_Cx} {A : Nat → Prop} {E : State → Prop} {adc adm adK adV : Nat → Nat} {ca cm : Nat → ClassId} {l0 : Launch} {D0 : va_G} {z : Nat × Nat} {Q : α → State → Prop} {K : Option α} (g : lw_G x A E adc adm ca cm l0 D0) (hq : hc_need E adc adK adV) {b L : Nat} {xs : Nat → Int32} (hX : lw_X x b L xs) (hL : L ≤ 3072) (hz : z.1 ≤ 600000 ∧ z.2 ≤ 7302250) {i : Nat} (hi : i + 6 ≤ L) {σc σm : hf_St} (h : hr σc σm) (kb : ∀ σc σm, hr σc σm → hf_X x A 4 z Q K (hf_wd hcT adc ca σc ++ hf_wd hmT adm cm σm) 963 (lw_lv b adc adm i) []) : hf_X x A 4 z Q K (hf_wd hcT adc ca σc ++ hf_wd hmT adm cm σm) 568 (lw_lv b adc adm i) [] := by
  have gc := g.1
  obtain ⟨r, σc', σm', e1, e2, h'⟩ := hr_feed h (xs (i + 1)) (xs (i + 2)) (xs (i + 3)) (xs (i + 4)) (xs (i + 5))
  refine hf_aload_n (i := 1) (q := 1) gc dL_law_568 rfl rfl ?_
  refine lw_arg g hX (j := 1) hL (by omega) 570 571 572 573 574 rfl rfl rfl rfl rfl dL_law_569 dL_law_570 dL_law_571 dL_law_572 dL_law_573 (by decide) ?_
  refine lw_arg g hX (j := 2) hL (by omega) 575 576 577 578 579 rfl rfl rfl rfl rfl dL_law_574 dL_law_575 dL_law_576 dL_law_577 dL_law_578 (by decide) ?_
  refine lw_arg g hX (j := 3) hL (by omega) 580 581 582 583 584 rfl rfl rfl rfl rfl dL_law_579 dL_law_580 dL_law_581 dL_law_582 dL_law_583 (by decide) ?_
  refine lw_arg g hX (j := 4) hL (by omega) 585 586 587 588 589 rfl rfl rfl rfl rfl dL_law_584 dL_law_585 dL_law_586 dL_law_587 dL_law_588 (by decide) ?_
  refine lw_arg g hX (j := 5) hL (by omega) 590 591 592 593 594 rfl rfl rfl rfl rfl dL_law_589 dL_law_590 dL_law_591 dL_law_592 dL_law_593 (by decide) ?_
  refine lw_callL g (As := [.int (xs (i + 1)), .int (xs (i + 2)), .int (xs (i + 3)), .int (xs (i + 4)), .int (xs (i + 5))]) (st := []) (n := 5) e1 (cc_hf_feed (a1 := xs (i + 1)) (a2 := xs (i + 2)) (a3 := xs (i + 3)) (a4 := xs (i + 4)) (a5 := xs (i + 5))) kV_RL_60 (by decide) (by decide) rfl rfl (Nat.le_of_ble_eq_true rfl) dL_law_594 hz ?_
  refine hf_aload_n (i := 2) (q := 2) gc dL_law_597 rfl rfl ?_
  refine lw_arg g hX (j := 1) hL (by omega) 599 600 601 602 603 rfl rfl rfl rfl rfl dL_law_598 dL_law_599 dL_law_600 dL_law_601 dL_law_602 (by decide) ?_
  refine lw_arg g hX (j := 2) hL (by omega) 604 605 606 607 608 rfl rfl rfl rfl rfl dL_law_603 dL_law_604 dL_law_605 dL_law_606 dL_law_607 (by decide) ?_
  refine lw_arg g hX (j := 3) hL (by omega) 609 610 611 612 613 rfl rfl rfl rfl rfl dL_law_608 dL_law_609 dL_law_610 dL_law_611 dL_law_612 (by decide) ?_
  refine lw_arg g hX (j := 4) hL (by omega) 614 615 616 617 618 rfl rfl rfl rfl rfl dL_law_613 dL_law_614 dL_law_615 dL_law_616 dL_law_617 (by decide) ?_
  refine lw_arg g hX (j := 5) hL (by omega) 619 620 621 622 623 rfl rfl rfl rfl rfl dL_law_618 dL_law_619 dL_law_620 dL_law_621 dL_law_622 (by decide) ?_
  refine lw_callR g (As := [.int (xs (i + 1)), .int (xs (i + 2)), .int (xs (i + 3)), .int (xs (i + 4)), .int (xs (i + 5))]) (st := [.int r]) (n := 5) e2 (cm_md_feed (a1 := xs (i + 1)) (a2 := xs (i + 2)) (a3 := xs (i + 3)) (a4 := xs (i + 4)) (a5 := xs (i + 5))) kV_RL_64 (by decide) (by decide) rfl rfl (Nat.le_of_ble_eq_true rfl) dL_law_623 hz ?_
  refine lw_eq (a := r) (st := []) gc (tgt := 963) dL_law_626 (by decide) ?_
  exact kb σc' σm' h'
set_option maxRecDepth 20000 in
theorem lw_case11 {α : Type} {x : hf_Cx} {A : Nat → Prop} {E : State → Prop} {adc adm adK adV : Nat → Nat} {ca cm : Nat → ClassId} {l0 : Launch} {D0 : va_G} {z : Nat × Nat} {Q : α → State → Prop} {K : Option α} (g : lw_G x A E adc adm ca cm l0 D0) (hq : hc_need E adc adK adV) {b L : Nat} {xs : Nat → Int32} (hX : lw_X x b L xs) (hL : L ≤ 3072) (hz : z.1 ≤ 600000 ∧ z.2 ≤ 7302250) {i : Nat} (hi : i + 6 ≤ L) {σc σm : hf_St} (h : hr σc σm) (kb : ∀ σc σm, hr σc σm → hf_X x A 4 z Q K (hf_wd hcT adc ca σc ++ hf_wd hmT adm cm σm) 963 (lw_lv b adc adm i) []) : hf_X x A 4 z Q K (hf_wd hcT adc ca σc ++ hf_wd hmT adm cm σm) 631 (lw_lv b adc adm i) [] := by
  have gc := g.1
  obtain ⟨r, σc', σm', e1, e2, h'⟩ := hr_end h (xs (i + 1))
  refine hf_aload_n (i := 1) (q := 1) gc dL_law_631 rfl rfl ?_
  refine lw_arg g hX (j := 1) hL (by omega) 633 634 635 636 637 rfl rfl rfl rfl rfl dL_law_632 dL_law_633 dL_law_634 dL_law_635 dL_law_636 (by decide) ?_
  refine lw_callL g (As := [.int (xs (i + 1))]) (st := []) (n := 1) e1 (cc_hf_end (a1 := xs (i + 1))) kV_RL_65 (by decide) (by decide) rfl rfl (Nat.le_of_ble_eq_true rfl) dL_law_637 hz ?_
  refine hf_aload_n (i := 2) (q := 2) gc dL_law_640 rfl rfl ?_
  refine lw_arg g hX (j := 1) hL (by omega) 642 643 644 645 646 rfl rfl rfl rfl rfl dL_law_641 dL_law_642 dL_law_643 dL_law_644 dL_law_645 (by decide) ?_
  refine lw_callR g (As := [.int (xs (i + 1))]) (st := [.int r]) (n := 1) e2 (cm_md_end (a1 := xs (i + 1))) kV_RL_68 (by decide) (by decide) rfl rfl (Nat.le_of_ble_eq_true rfl) dL_law_646 hz ?_
  refine lw_eq (a := r) (st := []) gc (tgt := 963) dL_law_649 (by decide) ?_
  exact kb σc' σm' h'
set_option maxRecDepth 20000 in
theorem lw_case12 {α : Type} {x : hf_Cx} {A : Nat → Prop} {E : State → Prop} {adc adm adK adV : Nat → Nat} {ca cm : Nat → ClassId} {l0 : Launch} {D0 : va_G} {z : Nat × Nat} {Q : α → State → Prop} {K : Option α} (g : lw_G x A E adc adm ca cm l0 D0) (hq : hc_need E adc adK adV) {b L : Nat} {xs : Nat → Int32} (hX : lw_X x b L xs) (hL : L ≤ 3072) (hz : z.1 ≤ 600000 ∧ z.2 ≤ 7302250) {i : Nat} (hi : i + 6 ≤ L) {σc σm : hf_St} (h : hr σc σm) (kb : ∀ σc σm, hr σc σm → hf_X x A 4 z Q K (hf_wd hcT adc ca σc ++ hf_wd hmT adm cm σm) 963 (lw_lv b adc adm i) []) : hf_X x A 4 z Q K (hf_wd hcT adc ca σc ++ hf_wd hmT adm cm σm) 654 (lw_lv b adc adm i) [] := by
  have gc := g.1
  obtain ⟨r, σc', σm', e1, e2, h'⟩ := hr_rules h
  refine hf_aload_n (i := 1) (q := 1) gc dL_law_654 rfl rfl ?_
  refine lw_callL g (As := []) (st := []) (n := 0) e1 (cc_hf_rules hq) kV_RL_69 (by decide) (by decide) rfl rfl (Nat.le_of_ble_eq_true rfl) dL_law_655 hz ?_
  refine hf_aload_n (i := 2) (q := 2) gc dL_law_658 rfl rfl ?_
  refine lw_callR g (As := []) (st := [.int r]) (n := 0) e2 (cm_md_rules) kV_RL_73 (by decide) (by decide) rfl rfl (Nat.le_of_ble_eq_true rfl) dL_law_659 hz ?_
  refine lw_eq (a := r) (st := []) gc (tgt := 963) dL_law_662 (by decide) ?_
  exact kb σc' σm' h'
set_option maxRecDepth 20000 in
theorem lw_case13 {α : Type} {x : hf_Cx} {A : Nat → Prop} {E : State → Prop} {adc adm adK adV : Nat → Nat} {ca cm : Nat → ClassId} {l0 : Launch} {D0 : va_G} {z : Nat × Nat} {Q : α → State → Prop} {K : Option α} (g : lw_G x A E adc adm ca cm l0 D0) (hq : hc_need E adc adK adV) {b L : Nat} {xs : Nat → Int32} (hX : lw_X x b L xs) (hL : L ≤ 3072) (hz : z.1 ≤ 600000 ∧ z.2 ≤ 7302250) {i : Nat} (hi : i + 6 ≤ L) {σc σm : hf_St} (h : hr σc σm) (kb : ∀ σc σm, hr σc σm → hf_X x A 4 z Q K (hf_wd hcT adc ca σc ++ hf_wd hmT adm cm σm) 963 (lw_lv b adc adm i) []) : hf_X x A 4 z Q K (hf_wd hcT adc ca σc ++ hf_wd hmT adm cm σm) 667 (lw_lv b adc adm i) [] := by
  have gc := g.1
  obtain ⟨r, σc', σm', e1, e2, h'⟩ := hr_bars h (xs (i + 1)) (xs (i + 2))
  refine hf_aload_n (i := 1) (q := 1) gc dL_law_667 rfl rfl ?_
  refine lw_arg g hX (j := 1) hL (by omega) 669 670 671 672 673 rfl rfl rfl rfl rfl dL_law_668 dL_law_669 dL_law_670 dL_law_671 dL_law_672 (by decide) ?_
  refine lw_arg g hX (j := 2) hL (by omega) 674 675 676 677 678 rfl rfl rfl rfl rfl dL_law_673 dL_law_674 dL_law_675 dL_law_676 dL_law_677 (by decide) ?_
  refine lw_callL g (As := [.int (xs (i + 1)), .int (xs (i + 2))]) (st := []) (n := 2) e1 (cc_hf_bars (a1 := xs (i + 1)) (a2 := xs (i + 2))) kV_RL_74 (by decide) (by decide) rfl rfl (Nat.le_of_ble_eq_true rfl) dL_law_678 hz ?_
  refine hf_aload_n (i := 2) (q := 2) gc dL_law_681 rfl rfl ?_
  refine lw_arg g hX (j := 1) hL (by omega) 683 684 685 686 687 rfl rfl rfl rfl rfl dL_law_682 dL_law_683 dL_law_684 dL_law_685 dL_law_686 (by decide) ?_
  refine lw_arg g hX (j := 2) hL (by omega) 688 689 690 691 692 rfl rfl rfl rfl rfl dL_law_687 dL_law_688 dL_law_689 dL_law_690 dL_law_691 (by decide) ?_
  refine lw_callR g (As := [.int (xs (i + 1)), .int (xs (i + 2))]) (st := [.int r]) (n := 2) e2 (cm_md_bars (a1 := xs (i + 1)) (a2 := xs (i + 2))) kV_RL_77 (by decide) (by decide) rfl rfl (Nat.le_of_ble_eq_true rfl) dL_law_692 hz ?_
  refine lw_eq (a := r) (st := []) gc (tgt := 963) dL_law_695 (by decide) ?_
  exact kb σc' σm' h'
set_option maxRecDepth 20000 in
theorem lw_case14 {α : Type} {x : hf_Cx} {A : Nat → Prop} {E : State → Prop} {adc adm adK adV : Nat → Nat} {ca cm : Nat → ClassId} {l0 : Launch} {D0 : va_G} {z : Nat × Nat} {Q : α → State → Prop} {K : Option α} (g : lw_G x A E adc adm ca cm l0 D0) (hq : hc_need E adc adK adV) {b L : Nat} {xs : Nat → Int32} (hX : lw_X x b L xs) (hL : L ≤ 3072) (hz : z.1 ≤ 600000 ∧ z.2 ≤ 7302250) {i : Nat} (hi : i + 6 ≤ L) {σc σm : hf_St} (h : hr σc σm) (kb : ∀ σc σm, hr σc σm → hf_X x A 4 z Q K (hf_wd hcT adc ca σc ++ hf_wd hmT adm cm σm) 963 (lw_lv b adc adm i) []) : hf_X x A 4 z Q K (hf_wd hcT adc ca σc ++ hf_wd hmT adm cm σm) 700 (lw_lv b adc adm i) [] := by
  have gc := g.1
  obtain ⟨r, σc', σm', e1, e2, h'⟩ := hr_barred h (xs (i + 1)) (xs (i + 2))
  refine hf_aload_n (i := 1) (q := 1) gc dL_law_700 rfl rfl ?_
  refine lw_arg g hX (j := 1) hL (by omega) 702 703 704 705 706 rfl rfl rfl rfl rfl dL_law_701 dL_law_702 dL_law_703 dL_law_704 dL_law_705 (by decide) ?_
  refine lw_arg g hX (j := 2) hL (by omega) 707 708 709 710 711 rfl rfl rfl rfl rfl dL_law_706 dL_law_707 dL_law_708 dL_law_709 dL_law_710 (by decide) ?_
  refine lw_callL g (As := [.int (xs (i + 1)), .int (xs (i + 2))]) (st := []) (n := 2) e1 (cc_hf_barred (a1 := xs (i + 1)) (a2 := xs (i + 2))) kV_RL_78 (by decide) (by decide) rfl rfl (Nat.le_of_ble_eq_true rfl) dL_law_711 hz ?_
  refine hf_aload_n (i := 2) (q := 2) gc dL_law_714 rfl rfl ?_
  refine lw_arg g hX (j := 1) hL (by omega) 716 717 718 719 720 rfl rfl rfl rfl rfl dL_law_715 dL_law_716 dL_law_717 dL_law_718 dL_law_719 (by decide) ?_
  refine lw_arg g hX (j := 2) hL (by omega) 721 722 723 724 725 rfl rfl rfl rfl rfl dL_law_720 dL_law_721 dL_law_722 dL_law_723 dL_law_724 (by decide) ?_
  refine lw_callR g (As := [.int (xs (i + 1)), .int (xs (i + 2))]) (st := [.int r]) (n := 2) e2 (cm_md_barred (a1 := xs (i + 1)) (a2 := xs (i + 2))) kV_RL_81 (by decide) (by decide) rfl rfl (Nat.le_of_ble_eq_true rfl) dL_law_725 hz ?_
  refine lw_eq (a := r) (st := []) gc (tgt := 963) dL_law_728 (by decide) ?_
  exact kb σc' σm' h'
set_option maxRecDepth 20000 in
theorem lw_case15 {α : Type} {x : hf_Cx} {A : Nat → Prop} {E : State → Prop} {adc adm adK adV : Nat → Nat} {ca cm : Nat → ClassId} {l0 : Launch} {D0 : va_G} {z : Nat × Nat} {Q : α → State → Prop} {K : Option α} (g : lw_G x A E adc adm ca cm l0 D0) (hq : hc_need E adc adK adV) {b L : Nat} {xs : Nat → Int32} (hX : lw_X x b L xs) (hL : L ≤ 3072) (hz : z.1 ≤ 600000 ∧ z.2 ≤ 7302250) {i : Nat} (hi : i + 6 ≤ L) {σc σm : hf_St} (h : hr σc σm) (kb : ∀ σc σm, hr σc σm → hf_X x A 4 z Q K (hf_wd hcT adc ca σc ++ hf_wd hmT adm cm σm) 963 (lw_lv b adc adm i) []) : hf_X x A 4 z Q K (hf_wd hcT adc ca σc ++ hf_wd hmT adm cm σm) 733 (lw_lv b adc adm i) [] := by
  have gc := g.1
  obtain ⟨r, σc', e1, e2, h'⟩ := hr_wish h (xs (i + 1)) (xs (i + 2))
  refine hf_aload_n (i := 1) (q := 1) gc dL_law_733 rfl rfl ?_
  refine lw_arg g hX (j := 1) hL (by omega) 735 736 737 738 739 rfl rfl rfl rfl rfl dL_law_734 dL_law_735 dL_law_736 dL_law_737 dL_law_738 (by decide) ?_
  refine lw_arg g hX (j := 2) hL (by omega) 740 741 742 743 744 rfl rfl rfl rfl rfl dL_law_739 dL_law_740 dL_law_741 dL_law_742 dL_law_743 (by decide) ?_
  refine lw_callL g (As := [.int (xs (i + 1)), .int (xs (i + 2))]) (st := []) (n := 2) e1 (cc_hf_wish (a1 := xs (i + 1)) (a2 := xs (i + 2))) kV_RL_82 (by decide) (by decide) rfl rfl (Nat.le_of_ble_eq_true rfl) dL_law_744 hz ?_
  refine hf_aload_n (i := 2) (q := 2) gc dL_law_747 rfl rfl ?_
  refine lw_arg g hX (j := 1) hL (by omega) 749 750 751 752 753 rfl rfl rfl rfl rfl dL_law_748 dL_law_749 dL_law_750 dL_law_751 dL_law_752 (by decide) ?_
  refine lw_arg g hX (j := 2) hL (by omega) 754 755 756 757 758 rfl rfl rfl rfl rfl dL_law_753 dL_law_754 dL_law_755 dL_law_756 dL_law_757 (by decide) ?_
  refine lw_callR g (As := [.int (xs (i + 1)), .int (xs (i + 2))]) (st := [.int r]) (n := 2) e2 (cm_md_wish (a1 := xs (i + 1)) (a2 := xs (i + 2))) kV_RL_85 (by decide) (by decide) rfl rfl (Nat.le_of_ble_eq_true rfl) dL_law_758 hz ?_
  refine lw_eq (a := r) (st := []) gc (tgt := 963) dL_law_761 (by decide) ?_
  exact kb σc' σm h'
set_option maxRecDepth 20000 in
theorem lw_case16 {α : Type} {x : hf_Cx} {A : Nat → Prop} {E : State → Prop} {adc adm adK adV : Nat → Nat} {ca cm : Nat → ClassId} {l0 : Launch} {D0 : va_G} {z : Nat × Nat} {Q : α → State → Prop} {K : Option α} (g : lw_G x A E adc adm ca cm l0 D0) (hq : hc_need E adc adK adV) {b L : Nat} {xs : Nat → Int32} (hX : lw_X x b L xs) (hL : L ≤ 3072) (hz : z.1 ≤ 600000 ∧ z.2 ≤ 7302250) {i : Nat} (hi : i + 6 ≤ L) {σc σm : hf_St} (h : hr σc σm) (kb : ∀ σc σm, hr σc σm → hf_X x A 4 z Q K (hf_wd hcT adc ca σc ++ hf_wd hmT adm cm σm) 963 (lw_lv b adc adm i) []) : hf_X x A 4 z Q K (hf_wd hcT adc ca σc ++ hf_wd hmT adm cm σm) 766 (lw_lv b adc adm i) [] := by
  have gc := g.1
  obtain ⟨r, σc', σm', e1, e2, h'⟩ := hr_place h (if xs (i + 1) = 0 then (0 : Int32) else 1)
  refine hf_aload_n (i := 1) (q := 1) gc dL_law_766 rfl rfl ?_
  refine lw_arg g hX (j := 1) hL (by omega) 768 769 770 771 772 rfl rfl rfl rfl rfl dL_law_767 dL_law_768 dL_law_769 dL_law_770 dL_law_771 (by decide) ?_
  refine lw_bool gc (pc1 := 775) (pc2 := 776) (pc3 := 779) (pc4 := 780) rfl rfl rfl rfl dL_law_772 dL_law_775 dL_law_776 dL_law_779 ?_
  refine lw_callL g (As := [.int (if xs (i + 1) = 0 then (0 : Int32) else 1)]) (st := []) (n := 1) e1 (cc_hf_place (a1 := (if xs (i + 1) = 0 then (0 : Int32) else 1))) kV_RL_86 (by decide) (by decide) rfl rfl (Nat.le_of_ble_eq_true rfl) dL_law_780 hz ?_
  refine hf_aload_n (i := 2) (q := 2) gc dL_law_783 rfl rfl ?_
  refine lw_arg g hX (j := 1) hL (by omega) 785 786 787 788 789 rfl rfl rfl rfl rfl dL_law_784 dL_law_785 dL_law_786 dL_law_787 dL_law_788 (by decide) ?_
  refine lw_bool gc (pc1 := 792) (pc2 := 793) (pc3 := 796) (pc4 := 797) rfl rfl rfl rfl dL_law_789 dL_law_792 dL_law_793 dL_law_796 ?_
  refine lw_callR g (As := [.int (if xs (i + 1) = 0 then (0 : Int32) else 1)]) (st := [.int r]) (n := 1) e2 (cm_md_place (a1 := (if xs (i + 1) = 0 then (0 : Int32) else 1))) kV_RL_90 (by decide) (by decide) rfl rfl (Nat.le_of_ble_eq_true rfl) dL_law_797 hz ?_
  refine lw_eq (a := r) (st := []) gc (tgt := 963) dL_law_800 (by decide) ?_
  exact kb σc' σm' h'
set_option maxRecDepth 20000 in
theorem lw_case17 {α : Type} {x : hf_Cx} {A : Nat → Prop} {E : State → Prop} {adc adm adK adV : Nat → Nat} {ca cm : Nat → ClassId} {l0 : Launch} {D0 : va_G} {z : Nat × Nat} {Q : α → State → Prop} {K : Option α} (g : lw_G x A E adc adm ca cm l0 D0) (hq : hc_need E adc adK adV) {b L : Nat} {xs : Nat → Int32} (hX : lw_X x b L xs) (hL : L ≤ 3072) (hz : z.1 ≤ 600000 ∧ z.2 ≤ 7302250) {i : Nat} (hi : i + 6 ≤ L) {σc σm : hf_St} (h : hr σc σm) (kb : ∀ σc σm, hr σc σm → hf_X x A 4 z Q K (hf_wd hcT adc ca σc ++ hf_wd hmT adm cm σm) 963 (lw_lv b adc adm i) []) : hf_X x A 4 z Q K (hf_wd hcT adc ca σc ++ hf_wd hmT adm cm σm) 805 (lw_lv b adc adm i) [] := by
  have gc := g.1
  obtain ⟨r, e1, e2⟩ := hr_at h (xs (i + 1))
  refine hf_aload_n (i := 1) (q := 1) gc dL_law_805 rfl rfl ?_
  refine lw_arg g hX (j := 1) hL (by omega) 807 808 809 810 811 rfl rfl rfl rfl rfl dL_law_806 dL_law_807 dL_law_808 dL_law_809 dL_law_810 (by decide) ?_
  refine lw_callL g (As := [.int (xs (i + 1))]) (st := []) (n := 1) e1 (cc_hf_at (a1 := xs (i + 1))) kV_RL_91 (by decide) (by decide) rfl rfl (Nat.le_of_ble_eq_true rfl) dL_law_811 hz ?_
  refine hf_aload_n (i := 2) (q := 2) gc dL_law_814 rfl rfl ?_
  refine lw_arg g hX (j := 1) hL (by omega) 816 817 818 819 820 rfl rfl rfl rfl rfl dL_law_815 dL_law_816 dL_law_817 dL_law_818 dL_law_819 (by decide) ?_
  refine lw_callR g (As := [.int (xs (i + 1))]) (st := [.int r]) (n := 1) e2 (cm_md_at (a1 := xs (i + 1))) kV_RL_94 (by decide) (by decide) rfl rfl (Nat.le_of_ble_eq_true rfl) dL_law_820 hz ?_
  refine lw_eq (a := r) (st := []) gc (tgt := 963) dL_law_823 (by decide) ?_
  exact kb σc σm h
set_option maxRecDepth 20000 in
theorem lw_case18 {α : Type} {x : hf_Cx} {A : Nat → Prop} {E : State → Prop} {adc adm adK adV : Nat → Nat} {ca cm : Nat → ClassId} {l0 : Launch} {D0 : va_G} {z : Nat × Nat} {Q : α → State → Prop} {K : Option α} (g : lw_G x A E adc adm ca cm l0 D0) (hq : hc_need E adc adK adV) {b L : Nat} {xs : Nat → Int32} (hX : lw_X x b L xs) (hL : L ≤ 3072) (hz : z.1 ≤ 600000 ∧ z.2 ≤ 7302250) {i : Nat} (hi : i + 6 ≤ L) {σc σm : hf_St} (h : hr σc σm) (kb : ∀ σc σm, hr σc σm → hf_X x A 4 z Q K (hf_wd hcT adc ca σc ++ hf_wd hmT adm cm σm) 963 (lw_lv b adc adm i) []) : hf_X x A 4 z Q K (hf_wd hcT adc ca σc ++ hf_wd hmT adm cm σm) 828 (lw_lv b adc adm i) [] := by
  have gc := g.1
  obtain ⟨r, e1, e2⟩ := hr_placed h (xs (i + 1))
  refine hf_aload_n (i := 1) (q := 1) gc dL_law_828 rfl rfl ?_
  refine lw_arg g hX (j := 1) hL (by omega) 830 831 832 833 834 rfl rfl rfl rfl rfl dL_law_829 dL_law_830 dL_law_831 dL_law_832 dL_law_833 (by decide) ?_
  refine lw_callL g (As := [.int (xs (i + 1))]) (st := []) (n := 1) e1 (cc_hf_placed (a1 := xs (i + 1))) kV_RL_95 (by decide) (by decide) rfl rfl (Nat.le_of_ble_eq_true rfl) dL_law_834 hz ?_
  refine hf_aload_n (i := 2) (q := 2) gc dL_law_837 rfl rfl ?_
  refine lw_arg g hX (j := 1) hL (by omega) 839 840 841 842 843 rfl rfl rfl rfl rfl dL_law_838 dL_law_839 dL_law_840 dL_law_841 dL_law_842 (by decide) ?_
  refine lw_callR g (As := [.int (xs (i + 1))]) (st := [.int r]) (n := 1) e2 (cm_md_placed (a1 := xs (i + 1))) kV_RL_98 (by decide) (by decide) rfl rfl (Nat.le_of_ble_eq_true rfl) dL_law_843 hz ?_
  refine lw_eq (a := r) (st := []) gc (tgt := 963) dL_law_846 (by decide) ?_
  exact kb σc σm h
set_option maxRecDepth 20000 in
theorem lw_case19 {α : Type} {x : hf_Cx} {A : Nat → Prop} {E : State → Prop} {adc adm adK adV : Nat → Nat} {ca cm : Nat → ClassId} {l0 : Launch} {D0 : va_G} {z : Nat × Nat} {Q : α → State → Prop} {K : Option α} (g : lw_G x A E adc adm ca cm l0 D0) (hq : hc_need E adc adK adV) {b L : Nat} {xs : Nat → Int32} (hX : lw_X x b L xs) (hL : L ≤ 3072) (hz : z.1 ≤ 600000 ∧ z.2 ≤ 7302250) {i : Nat} (hi : i + 6 ≤ L) {σc σm : hf_St} (h : hr σc σm) (kb : ∀ σc σm, hr σc σm → hf_X x A 4 z Q K (hf_wd hcT adc ca σc ++ hf_wd hmT adm cm σm) 963 (lw_lv b adc adm i) []) : hf_X x A 4 z Q K (hf_wd hcT adc ca σc ++ hf_wd hmT adm cm σm) 851 (lw_lv b adc adm i) [] := by
  have gc := g.1
  obtain ⟨r, e1, e2⟩ := hr_beds h (xs (i + 1)) (xs (i + 2))
  refine hf_aload_n (i := 1) (q := 1) gc dL_law_851 rfl rfl ?_
  refine lw_arg g hX (j := 1) hL (by omega) 853 854 855 856 857 rfl rfl rfl rfl rfl dL_law_852 dL_law_853 dL_law_854 dL_law_855 dL_law_856 (by decide) ?_
  refine lw_arg g hX (j := 2) hL (by omega) 858 859 860 861 862 rfl rfl rfl rfl rfl dL_law_857 dL_law_858 dL_law_859 dL_law_860 dL_law_861 (by decide) ?_
  refine lw_callL g (As := [.int (xs (i + 1)), .int (xs (i + 2))]) (st := []) (n := 2) e1 (cc_hf_beds (a1 := xs (i + 1)) (a2 := xs (i + 2))) kV_RL_99 (by decide) (by decide) rfl rfl (Nat.le_of_ble_eq_true rfl) dL_law_862 hz ?_
  refine hf_aload_n (i := 2) (q := 2) gc dL_law_865 rfl rfl ?_
  refine lw_arg g hX (j := 1) hL (by omega) 867 868 869 870 871 rfl rfl rfl rfl rfl dL_law_866 dL_law_867 dL_law_868 dL_law_869 dL_law_870 (by decide) ?_
  refine lw_arg g hX (j := 2) hL (by omega) 872 873 874 875 876 rfl rfl rfl rfl rfl dL_law_871 dL_law_872 dL_law_873 dL_law_874 dL_law_875 (by decide) ?_
  refine lw_callR g (As := [.int (xs (i + 1)), .int (xs (i + 2))]) (st := [.int r]) (n := 2) e2 (cm_md_beds (a1 := xs (i + 1)) (a2 := xs (i + 2))) kV_RL_102 (by decide) (by decide) rfl rfl (Nat.le_of_ble_eq_true rfl) dL_law_876 hz ?_
  refine lw_eq (a := r) (st := []) gc (tgt := 963) dL_law_879 (by decide) ?_
  exact kb σc σm h
set_option maxRecDepth 20000 in
theorem lw_case20 {α : Type} {x : hf_Cx} {A : Nat → Prop} {E : State → Prop} {adc adm adK adV : Nat → Nat} {ca cm : Nat → ClassId} {l0 : Launch} {D0 : va_G} {z : Nat × Nat} {Q : α → State → Prop} {K : Option α} (g : lw_G x A E adc adm ca cm l0 D0) (hq : hc_need E adc adK adV) {b L : Nat} {xs : Nat → Int32} (hX : lw_X x b L xs) (hL : L ≤ 3072) (hz : z.1 ≤ 600000 ∧ z.2 ≤ 7302250) {i : Nat} (hi : i + 6 ≤ L) {σc σm : hf_St} (h : hr σc σm) (kb : ∀ σc σm, hr σc σm → hf_X x A 4 z Q K (hf_wd hcT adc ca σc ++ hf_wd hmT adm cm σm) 963 (lw_lv b adc adm i) []) : hf_X x A 4 z Q K (hf_wd hcT adc ca σc ++ hf_wd hmT adm cm σm) 884 (lw_lv b adc adm i) [] := by
  have gc := g.1
  obtain ⟨r, e1, e2⟩ := hr_review h (xs (i + 1)) (xs (i + 2))
  refine hf_aload_n (i := 1) (q := 1) gc dL_law_884 rfl rfl ?_
  refine lw_arg g hX (j := 1) hL (by omega) 886 887 888 889 890 rfl rfl rfl rfl rfl dL_law_885 dL_law_886 dL_law_887 dL_law_888 dL_law_889 (by decide) ?_
  refine lw_arg g hX (j := 2) hL (by omega) 891 892 893 894 895 rfl rfl rfl rfl rfl dL_law_890 dL_law_891 dL_law_892 dL_law_893 dL_law_894 (by decide) ?_
  refine lw_callL g (As := [.int (xs (i + 1)), .int (xs (i + 2))]) (st := []) (n := 2) e1 (cc_hf_review (a1 := xs (i + 1)) (a2 := xs (i + 2))) kV_RL_103 (by decide) (by decide) rfl rfl (Nat.le_of_ble_eq_true rfl) dL_law_895 hz ?_
  refine hf_aload_n (i := 2) (q := 2) gc dL_law_898 rfl rfl ?_
  refine lw_arg g hX (j := 1) hL (by omega) 900 901 902 903 904 rfl rfl rfl rfl rfl dL_law_899 dL_law_900 dL_law_901 dL_law_902 dL_law_903 (by decide) ?_
  refine lw_arg g hX (j := 2) hL (by omega) 905 906 907 908 909 rfl rfl rfl rfl rfl dL_law_904 dL_law_905 dL_law_906 dL_law_907 dL_law_908 (by decide) ?_
  refine lw_callR g (As := [.int (xs (i + 1)), .int (xs (i + 2))]) (st := [.int r]) (n := 2) e2 (cm_md_review (a1 := xs (i + 1)) (a2 := xs (i + 2))) kV_RL_106 (by decide) (by decide) rfl rfl (Nat.le_of_ble_eq_true rfl) dL_law_909 hz ?_
  refine lw_eq (a := r) (st := []) gc (tgt := 963) dL_law_912 (by decide) ?_
  exact kb σc σm h
set_option maxRecDepth 20000 in
theorem lw_case21 {α : Type} {x : hf_Cx} {A : Nat → Prop} {E : State → Prop} {adc adm adK adV : Nat → Nat} {ca cm : Nat → ClassId} {l0 : Launch} {D0 : va_G} {z : Nat × Nat} {Q : α → State → Prop} {K : Option α} (g : lw_G x A E adc adm ca cm l0 D0) (hq : hc_need E adc adK adV) {b L : Nat} {xs : Nat → Int32} (hX : lw_X x b L xs) (hL : L ≤ 3072) (hz : z.1 ≤ 600000 ∧ z.2 ≤ 7302250) {i : Nat} (hi : i + 6 ≤ L) {σc σm : hf_St} (h : hr σc σm) (kb : ∀ σc σm, hr σc σm → hf_X x A 4 z Q K (hf_wd hcT adc ca σc ++ hf_wd hmT adm cm σm) 963 (lw_lv b adc adm i) []) : hf_X x A 4 z Q K (hf_wd hcT adc ca σc ++ hf_wd hmT adm cm σm) 917 (lw_lv b adc adm i) [] := by
  have gc := g.1
  obtain ⟨r, e1, e2⟩ := hr_reviews h (xs (i + 1))
  refine hf_aload_n (i := 1) (q := 1) gc dL_law_917 rfl rfl ?_
  refine lw_arg g hX (j := 1) hL (by omega) 919 920 921 922 923 rfl rfl rfl rfl rfl dL_law_918 dL_law_919 dL_law_920 dL_law_921 dL_law_922 (by decide) ?_
  refine lw_callL g (As := [.int (xs (i + 1))]) (st := []) (n := 1) e1 (cc_hf_reviews (a1 := xs (i + 1))) kV_RL_107 (by decide) (by decide) rfl rfl (Nat.le_of_ble_eq_true rfl) dL_law_923 hz ?_
  refine hf_aload_n (i := 2) (q := 2) gc dL_law_926 rfl rfl ?_
  refine lw_arg g hX (j := 1) hL (by omega) 928 929 930 931 932 rfl rfl rfl rfl rfl dL_law_927 dL_law_928 dL_law_929 dL_law_930 dL_law_931 (by decide) ?_
  refine lw_callR g (As := [.int (xs (i + 1))]) (st := [.int r]) (n := 1) e2 (cm_md_reviews (a1 := xs (i + 1))) kV_RL_110 (by decide) (by decide) rfl rfl (Nat.le_of_ble_eq_true rfl) dL_law_932 hz ?_
  refine lw_eq (a := r) (st := []) gc (tgt := 963) dL_law_935 (by decide) ?_
  exact kb σc σm h
set_option maxRecDepth 20000 in
theorem lw_case22 {α : Type} {x : hf_Cx} {A : Nat → Prop} {E : State → Prop} {adc adm adK adV : Nat → Nat} {ca cm : Nat → ClassId} {l0 : Launch} {D0 : va_G} {z : Nat × Nat} {Q : α → State → Prop} {K : Option α} (g : lw_G x A E adc adm ca cm l0 D0) (hq : hc_need E adc adK adV) {b L : Nat} {xs : Nat → Int32} (hX : lw_X x b L xs) (hL : L ≤ 3072) (hz : z.1 ≤ 600000 ∧ z.2 ≤ 7302250) {i : Nat} (hi : i + 6 ≤ L) {σc σm : hf_St} (h : hr σc σm) (kb : ∀ σc σm, hr σc σm → hf_X x A 4 z Q K (hf_wd hcT adc ca σc ++ hf_wd hmT adm cm σm) 963 (lw_lv b adc adm i) []) : hf_X x A 4 z Q K (hf_wd hcT adc ca σc ++ hf_wd hmT adm cm σm) 940 (lw_lv b adc adm i) [] := by
  have gc := g.1
  obtain ⟨r, e1, e2⟩ := hr_count h (xs (i + 1))
  refine hf_aload_n (i := 1) (q := 1) gc dL_law_940 rfl rfl ?_
  refine lw_arg g hX (j := 1) hL (by omega) 942 943 944 945 946 rfl rfl rfl rfl rfl dL_law_941 dL_law_942 dL_law_943 dL_law_944 dL_law_945 (by decide) ?_
  refine lw_callL g (As := [.int (xs (i + 1))]) (st := []) (n := 1) e1 (cc_hf_count (a1 := xs (i + 1))) kV_RL_111 (by decide) (by decide) rfl rfl (Nat.le_of_ble_eq_true rfl) dL_law_946 hz ?_
  refine hf_aload_n (i := 2) (q := 2) gc dL_law_949 rfl rfl ?_
  refine lw_arg g hX (j := 1) hL (by omega) 951 952 953 954 955 rfl rfl rfl rfl rfl dL_law_950 dL_law_951 dL_law_952 dL_law_953 dL_law_954 (by decide) ?_
  refine lw_callR g (As := [.int (xs (i + 1))]) (st := [.int r]) (n := 1) e2 (cm_md_count (a1 := xs (i + 1))) kV_RL_114 (by decide) (by decide) rfl rfl (Nat.le_of_ble_eq_true rfl) dL_law_955 hz ?_
  refine lw_eq (a := r) (st := []) gc (tgt := 963) dL_law_958 (by decide) ?_
  exact kb σc σm h
