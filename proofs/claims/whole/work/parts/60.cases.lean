/-! the calls of the law, one by one: from the head of a case to its end (generated: gen/gen60.py) -/
set_option maxRecDepth 100000 in
set_option maxHeartbeats 4000000 in
theorem lw_c0 {K : aK} {nm : String} {b L k : Nat} {xs : Nat → Int32} (X : am_C K cL_law 4 RL nm room_1) (HL : am_L0 K b L xs) (hL : L ≤ 2048) (hk : k + 4 ≤ L) (kk : lw_go K 872 k) : lw_go K 152 k := by
  intro sh P I J hs hm
  have h6 := hs.1
  have h7 := hs.2.1
  have hr := hs.room
  obtain ⟨r, I1, I2, e1, e2, hm2⟩ := cl_setUp hm (xs (k + 1))
  refine ar_aload_n X dL_law_152 rfl 2 rfl ?_
  refine lw_arg (j := 1) X HL hL dL_law_153 dL_law_154 dL_law_155 dL_law_156 dL_law_157 (by decide) (by omega) ?_
  refine ar_cVi (As := [.int (xs (k + 1))]) (st := []) X dL_law_158 (am_X6_setUp h6 e1) lk_L_13 mt_X6_setUp mi_X6_setUp (L6_s0 h6) rfl rfl (Nat.le_of_ble_eq_true rfl) ⟨Nat.le_of_ble_eq_true rfl, Nat.le_of_ble_eq_true rfl⟩ hr rfl ?_
  refine ar_aload_n X dL_law_161 rfl 1 rfl ?_
  refine lw_arg (j := 1) X HL hL dL_law_162 dL_law_163 dL_law_164 dL_law_165 dL_law_166 (by decide) (by omega) ?_
  refine ar_cVi (As := [.int (xs (k + 1))]) (st := [.int r]) X dL_law_167 (am_X7_setUp h7 e2) lk_L_17 mt_X7_setUp mi_X7_setUp (L7_s0 h7) rfl rfl (Nat.le_of_ble_eq_true rfl) ⟨Nat.le_of_ble_eq_true rfl, Nat.le_of_ble_eq_true rfl⟩ hr rfl ?_
  exact ar_icmp_eq (β := Unit) (T := some ()) (F := none) (Rs := ()) (tgt := 872) X dL_law_170 (by decide) (if_pos rfl) (fun _ _ => kk _ _ _ _ hs hm2) (fun _ hf => by cases hf)
set_option maxRecDepth 100000 in
set_option maxHeartbeats 4000000 in
theorem lw_c1 {K : aK} {nm : String} {b L k : Nat} {xs : Nat → Int32} (X : am_C K cL_law 4 RL nm room_1) (HL : am_L0 K b L xs) (hL : L ≤ 2048) (hk : k + 4 ≤ L) (kk : lw_go K 872 k) : lw_go K 175 k := by
  intro sh P I J hs hm
  have h6 := hs.1
  have h7 := hs.2.1
  have hr := hs.room
  obtain ⟨r, I1, I2, e1, e2, hm2⟩ := cl_set hm (xs (k + 1)) (xs (k + 2))
  refine ar_aload_n X dL_law_175 rfl 2 rfl ?_
  refine lw_arg (j := 1) X HL hL dL_law_176 dL_law_177 dL_law_178 dL_law_179 dL_law_180 (by decide) (by omega) ?_
  refine lw_arg (j := 2) X HL hL dL_law_181 dL_law_182 dL_law_183 dL_law_184 dL_law_185 (by decide) (by omega) ?_
  refine ar_cVi (As := [.int (xs (k + 1)), .int (xs (k + 2))]) (st := []) X dL_law_186 (am_X6_set h6 e1) lk_L_18 mt_X6_set mi_X6_set (L6_s0 h6) rfl rfl (Nat.le_of_ble_eq_true rfl) ⟨Nat.le_of_ble_eq_true rfl, Nat.le_of_ble_eq_true rfl⟩ hr rfl ?_
  refine ar_aload_n X dL_law_189 rfl 1 rfl ?_
  refine lw_arg (j := 1) X HL hL dL_law_190 dL_law_191 dL_law_192 dL_law_193 dL_law_194 (by decide) (by omega) ?_
  refine lw_arg (j := 2) X HL hL dL_law_195 dL_law_196 dL_law_197 dL_law_198 dL_law_199 (by decide) (by omega) ?_
  refine ar_cVi (As := [.int (xs (k + 1)), .int (xs (k + 2))]) (st := [.int r]) X dL_law_200 (am_X7_set h7 e2) lk_L_22 mt_X7_set mi_X7_set (L7_s0 h7) rfl rfl (Nat.le_of_ble_eq_true rfl) ⟨Nat.le_of_ble_eq_true rfl, Nat.le_of_ble_eq_true rfl⟩ hr rfl ?_
  exact ar_icmp_eq (β := Unit) (T := some ()) (F := none) (Rs := ()) (tgt := 872) X dL_law_203 (by decide) (if_pos rfl) (fun _ _ => kk _ _ _ _ hs hm2) (fun _ hf => by cases hf)
set_option maxRecDepth 100000 in
set_option maxHeartbeats 4000000 in
theorem lw_c2 {K : aK} {nm : String} {b L k : Nat} {xs : Nat → Int32} (X : am_C K cL_law 4 RL nm room_1) (HL : am_L0 K b L xs) (hL : L ≤ 2048) (hk : k + 4 ≤ L) (kk : lw_go K 872 k) : lw_go K 208 k := by
  intro sh P I J hs hm
  have h6 := hs.1
  have h7 := hs.2.1
  have hr := hs.room
  obtain ⟨r, I1, I2, e1, e2, hm2⟩ := cl_fill hm (xs (k + 1)) (xs (k + 2))
  refine ar_aload_n X dL_law_208 rfl 2 rfl ?_
  refine lw_arg (j := 1) X HL hL dL_law_209 dL_law_210 dL_law_211 dL_law_212 dL_law_213 (by decide) (by omega) ?_
  refine lw_arg (j := 2) X HL hL dL_law_214 dL_law_215 dL_law_216 dL_law_217 dL_law_218 (by decide) (by omega) ?_
  refine ar_cVi (As := [.int (xs (k + 1)), .int (xs (k + 2))]) (st := []) X dL_law_219 (am_X6_fill h6 e1) lk_L_23 mt_X6_fill mi_X6_fill (L6_s0 h6) rfl rfl (Nat.le_of_ble_eq_true rfl) ⟨Nat.le_of_ble_eq_true rfl, Nat.le_of_ble_eq_true rfl⟩ hr rfl ?_
  refine ar_aload_n X dL_law_222 rfl 1 rfl ?_
  refine lw_arg (j := 1) X HL hL dL_law_223 dL_law_224 dL_law_225 dL_law_226 dL_law_227 (by decide) (by omega) ?_
  refine lw_arg (j := 2) X HL hL dL_law_228 dL_law_229 dL_law_230 dL_law_231 dL_law_232 (by decide) (by omega) ?_
  refine ar_cVi (As := [.int (xs (k + 1)), .int (xs (k + 2))]) (st := [.int r]) X dL_law_233 (am_X7_fill h7 e2) lk_L_26 mt_X7_fill mi_X7_fill (L7_s0 h7) rfl rfl (Nat.le_of_ble_eq_true rfl) ⟨Nat.le_of_ble_eq_true rfl, Nat.le_of_ble_eq_true rfl⟩ hr rfl ?_
  exact ar_icmp_eq (β := Unit) (T := some ()) (F := none) (Rs := ()) (tgt := 872) X dL_law_236 (by decide) (if_pos rfl) (fun _ _ => kk _ _ _ _ hs hm2) (fun _ hf => by cases hf)
set_option maxRecDepth 100000 in
set_option maxHeartbeats 4000000 in
theorem lw_c3 {K : aK} {nm : String} {b L k : Nat} {xs : Nat → Int32} (X : am_C K cL_law 4 RL nm room_1) (HL : am_L0 K b L xs) (hL : L ≤ 2048) (hk : k + 4 ≤ L) (kk : lw_go K 872 k) : lw_go K 241 k := by
  intro sh P I J hs hm
  have h6 := hs.1
  have h7 := hs.2.1
  have hr := hs.room
  obtain ⟨r, I1, I2, e1, e2, hm2⟩ := cl_embolden hm (xs (k + 1)) (xs (k + 2))
  refine ar_aload_n X dL_law_241 rfl 2 rfl ?_
  refine lw_arg (j := 1) X HL hL dL_law_242 dL_law_243 dL_law_244 dL_law_245 dL_law_246 (by decide) (by omega) ?_
  refine lw_arg (j := 2) X HL hL dL_law_247 dL_law_248 dL_law_249 dL_law_250 dL_law_251 (by decide) (by omega) ?_
  refine ar_cVi (As := [.int (xs (k + 1)), .int (xs (k + 2))]) (st := []) X dL_law_252 (am_X6_embolden h6 e1) lk_L_27 mt_X6_embolden mi_X6_embolden (L6_s0 h6) rfl rfl (Nat.le_of_ble_eq_true rfl) ⟨Nat.le_of_ble_eq_true rfl, Nat.le_of_ble_eq_true rfl⟩ hr rfl ?_
  refine ar_aload_n X dL_law_255 rfl 1 rfl ?_
  refine lw_arg (j := 1) X HL hL dL_law_256 dL_law_257 dL_law_258 dL_law_259 dL_law_260 (by decide) (by omega) ?_
  refine lw_arg (j := 2) X HL hL dL_law_261 dL_law_262 dL_law_263 dL_law_264 dL_law_265 (by decide) (by omega) ?_
  refine ar_cVi (As := [.int (xs (k + 1)), .int (xs (k + 2))]) (st := [.int r]) X dL_law_266 (am_X7_embolden h7 e2) lk_L_30 mt_X7_embolden mi_X7_embolden (L7_s0 h7) rfl rfl (Nat.le_of_ble_eq_true rfl) ⟨Nat.le_of_ble_eq_true rfl, Nat.le_of_ble_eq_true rfl⟩ hr rfl ?_
  exact ar_icmp_eq (β := Unit) (T := some ()) (F := none) (Rs := ()) (tgt := 872) X dL_law_269 (by decide) (if_pos rfl) (fun _ _ => kk _ _ _ _ hs hm2) (fun _ hf => by cases hf)
set_option maxRecDepth 100000 in
set_option maxHeartbeats 4000000 in
theorem lw_c4 {K : aK} {nm : String} {b L k : Nat} {xs : Nat → Int32} (X : am_C K cL_law 4 RL nm room_1) (HL : am_L0 K b L xs) (hL : L ≤ 2048) (hk : k + 4 ≤ L) (kk : lw_go K 872 k) : lw_go K 274 k := by
  intro sh P I J hs hm
  have h6 := hs.1
  have h7 := hs.2.1
  have hr := hs.room
  obtain ⟨r, I1, I2, e1, e2, hm2⟩ := cl_lot hm (xs (k + 1)) (xs (k + 2))
  refine ar_aload_n X dL_law_274 rfl 2 rfl ?_
  refine lw_arg (j := 1) X HL hL dL_law_275 dL_law_276 dL_law_277 dL_law_278 dL_law_279 (by decide) (by omega) ?_
  refine lw_arg (j := 2) X HL hL dL_law_280 dL_law_281 dL_law_282 dL_law_283 dL_law_284 (by decide) (by omega) ?_
  refine ar_cVi (As := [.int (xs (k + 1)), .int (xs (k + 2))]) (st := []) X dL_law_285 (am_X6_lot h6 e1) lk_L_31 mt_X6_lot mi_X6_lot (L6_s0 h6) rfl rfl (Nat.le_of_ble_eq_true rfl) ⟨Nat.le_of_ble_eq_true rfl, Nat.le_of_ble_eq_true rfl⟩ hr rfl ?_
  refine ar_aload_n X dL_law_288 rfl 1 rfl ?_
  refine lw_arg (j := 1) X HL hL dL_law_289 dL_law_290 dL_law_291 dL_law_292 dL_law_293 (by decide) (by omega) ?_
  refine lw_arg (j := 2) X HL hL dL_law_294 dL_law_295 dL_law_296 dL_law_297 dL_law_298 (by decide) (by omega) ?_
  refine ar_cVi (As := [.int (xs (k + 1)), .int (xs (k + 2))]) (st := [.int r]) X dL_law_299 (am_X7_lot h7 e2) lk_L_34 mt_X7_lot mi_X7_lot (L7_s0 h7) rfl rfl (Nat.le_of_ble_eq_true rfl) ⟨Nat.le_of_ble_eq_true rfl, Nat.le_of_ble_eq_true rfl⟩ hr rfl ?_
  exact ar_icmp_eq (β := Unit) (T := some ()) (F := none) (Rs := ()) (tgt := 872) X dL_law_302 (by decide) (if_pos rfl) (fun _ _ => kk _ _ _ _ hs hm2) (fun _ hf => by cases hf)
set_option maxRecDepth 100000 in
set_option maxHeartbeats 4000000 in
theorem lw_c5 {K : aK} {nm : String} {b L k : Nat} {xs : Nat → Int32} (X : am_C K cL_law 4 RL nm room_1) (HL : am_L0 K b L xs) (hL : L ≤ 2048) (hk : k + 4 ≤ L) (kk : lw_go K 872 k) : lw_go K 307 k := by
  intro sh P I J hs hm
  have h6 := hs.1
  have h7 := hs.2.1
  have hr := hs.room
  obtain ⟨r, I1, I2, e1, e2, hm2⟩ := cl_begin hm (xs (k + 1)) (xs (k + 2))
  refine ar_aload_n X dL_law_307 rfl 2 rfl ?_
  refine lw_arg (j := 1) X HL hL dL_law_308 dL_law_309 dL_law_310 dL_law_311 dL_law_312 (by decide) (by omega) ?_
  refine lw_arg (j := 2) X HL hL dL_law_313 dL_law_314 dL_law_315 dL_law_316 dL_law_317 (by decide) (by omega) ?_
  refine ar_cVi (As := [.int (xs (k + 1)), .int (xs (k + 2))]) (st := []) X dL_law_318 (am_X6_begin h6 e1) lk_L_35 mt_X6_begin mi_X6_begin (L6_s0 h6) rfl rfl (Nat.le_of_ble_eq_true rfl) ⟨Nat.le_of_ble_eq_true rfl, Nat.le_of_ble_eq_true rfl⟩ hr rfl ?_
  refine ar_aload_n X dL_law_321 rfl 1 rfl ?_
  refine lw_arg (j := 1) X HL hL dL_law_322 dL_law_323 dL_law_324 dL_law_325 dL_law_326 (by decide) (by omega) ?_
  refine lw_arg (j := 2) X HL hL dL_law_327 dL_law_328 dL_law_329 dL_law_330 dL_law_331 (by decide) (by omega) ?_
  refine ar_cVi (As := [.int (xs (k + 1)), .int (xs (k + 2))]) (st := [.int r]) X dL_law_332 (am_X7_begin h7 e2) lk_L_38 mt_X7_begin mi_X7_begin (L7_s0 h7) rfl rfl (Nat.le_of_ble_eq_true rfl) ⟨Nat.le_of_ble_eq_true rfl, Nat.le_of_ble_eq_true rfl⟩ hr rfl ?_
  exact ar_icmp_eq (β := Unit) (T := some ()) (F := none) (Rs := ()) (tgt := 872) X dL_law_335 (by decide) (if_pos rfl) (fun _ _ => kk _ _ _ _ hs hm2) (fun _ hf => by cases hf)
set_option maxRecDepth 100000 in
set_option maxHeartbeats 4000000 in
theorem lw_c6 {K : aK} {nm : String} {b L k : Nat} {xs : Nat → Int32} (X : am_C K cL_law 4 RL nm room_1) (HL : am_L0 K b L xs) (hL : L ≤ 2048) (hk : k + 4 ≤ L) (kk : lw_go K 872 k) : lw_go K 340 k := by
  intro sh P I J hs hm
  have h6 := hs.1
  have h7 := hs.2.1
  have hr := hs.room
  obtain ⟨r, I1, I2, e1, e2, hm2⟩ := cl_bid hm (xs (k + 1)) (xs (k + 2))
  refine ar_aload_n X dL_law_340 rfl 2 rfl ?_
  refine lw_arg (j := 1) X HL hL dL_law_341 dL_law_342 dL_law_343 dL_law_344 dL_law_345 (by decide) (by omega) ?_
  refine lw_arg (j := 2) X HL hL dL_law_346 dL_law_347 dL_law_348 dL_law_349 dL_law_350 (by decide) (by omega) ?_
  refine ar_cVi (As := [.int (xs (k + 1)), .int (xs (k + 2))]) (st := []) X dL_law_351 (am_X6_bid h6 e1) lk_L_39 mt_X6_bid mi_X6_bid (L6_s0 h6) rfl rfl (Nat.le_of_ble_eq_true rfl) ⟨Nat.le_of_ble_eq_true rfl, Nat.le_of_ble_eq_true rfl⟩ hr rfl ?_
  refine ar_aload_n X dL_law_354 rfl 1 rfl ?_
  refine lw_arg (j := 1) X HL hL dL_law_355 dL_law_356 dL_law_357 dL_law_358 dL_law_359 (by decide) (by omega) ?_
  refine lw_arg (j := 2) X HL hL dL_law_360 dL_law_361 dL_law_362 dL_law_363 dL_law_364 (by decide) (by omega) ?_
  refine ar_cVi (As := [.int (xs (k + 1)), .int (xs (k + 2))]) (st := [.int r]) X dL_law_365 (am_X7_bid h7 e2) lk_L_42 mt_X7_bid mi_X7_bid (L7_s0 h7) rfl rfl (Nat.le_of_ble_eq_true rfl) ⟨Nat.le_of_ble_eq_true rfl, Nat.le_of_ble_eq_true rfl⟩ hr rfl ?_
  exact ar_icmp_eq (β := Unit) (T := some ()) (F := none) (Rs := ()) (tgt := 872) X dL_law_368 (by decide) (if_pos rfl) (fun _ _ => kk _ _ _ _ hs hm2) (fun _ hf => by cases hf)
set_option maxRecDepth 100000 in
set_option maxHeartbeats 4000000 in
theorem lw_c7 {K : aK} {nm : String} {b L k : Nat} {xs : Nat → Int32} (X : am_C K cL_law 4 RL nm room_1) (HL : am_L0 K b L xs) (hL : L ≤ 2048) (hk : k + 4 ≤ L) (kk : lw_go K 872 k) : lw_go K 373 k := by
  intro sh P I J hs hm
  have h6 := hs.1
  have h7 := hs.2.1
  have hr := hs.room
  obtain ⟨r, I1, I2, e1, e2, hm2⟩ := cl_pass hm (xs (k + 1))
  refine ar_aload_n X dL_law_373 rfl 2 rfl ?_
  refine lw_arg (j := 1) X HL hL dL_law_374 dL_law_375 dL_law_376 dL_law_377 dL_law_378 (by decide) (by omega) ?_
  refine ar_cVi (As := [.int (xs (k + 1))]) (st := []) X dL_law_379 (am_X6_pass h6 e1) lk_L_43 mt_X6_pass mi_X6_pass (L6_s0 h6) rfl rfl (Nat.le_of_ble_eq_true rfl) ⟨Nat.le_of_ble_eq_true rfl, Nat.le_of_ble_eq_true rfl⟩ hr rfl ?_
  refine ar_aload_n X dL_law_382 rfl 1 rfl ?_
  refine lw_arg (j := 1) X HL hL dL_law_383 dL_law_384 dL_law_385 dL_law_386 dL_law_387 (by decide) (by omega) ?_
  refine ar_cVi (As := [.int (xs (k + 1))]) (st := [.int r]) X dL_law_388 (am_X7_pass h7 e2) lk_L_46 mt_X7_pass mi_X7_pass (L7_s0 h7) rfl rfl (Nat.le_of_ble_eq_true rfl) ⟨Nat.le_of_ble_eq_true rfl, Nat.le_of_ble_eq_true rfl⟩ hr rfl ?_
  exact ar_icmp_eq (β := Unit) (T := some ()) (F := none) (Rs := ()) (tgt := 872) X dL_law_391 (by decide) (if_pos rfl) (fun _ _ => kk _ _ _ _ hs hm2) (fun _ hf => by cases hf)
set_option maxRecDepth 100000 in
set_option maxHeartbeats 4000000 in
theorem lw_c8 {K : aK} {nm : String} {b L k : Nat} {xs : Nat → Int32} (X : am_C K cL_law 4 RL nm room_1) (HL : am_L0 K b L xs) (hL : L ≤ 2048) (hk : k + 4 ≤ L) (kk : lw_go K 872 k) : lw_go K 396 k := by
  intro sh P I J hs hm
  have h6 := hs.1
  have h7 := hs.2.1
  have hr := hs.room
  obtain ⟨r, I1, I2, e1, e2, hm2⟩ := cl_move hm 
  refine ar_aload_n X dL_law_396 rfl 2 rfl ?_
  refine ar_cVi (As := []) (st := []) X dL_law_397 (am_X6_move h6 e1) lk_L_47 mt_X6_move mi_X6_move (L6_s0 h6) rfl rfl (Nat.le_of_ble_eq_true rfl) ⟨Nat.le_of_ble_eq_true rfl, Nat.le_of_ble_eq_true rfl⟩ hr rfl ?_
  refine ar_aload_n X dL_law_400 rfl 1 rfl ?_
  refine ar_cVi (As := []) (st := [.int r]) X dL_law_401 (am_X7_move h7 e2) lk_L_51 mt_X7_move mi_X7_move (L7_s0 h7) rfl rfl (Nat.le_of_ble_eq_true rfl) ⟨Nat.le_of_ble_eq_true rfl, Nat.le_of_ble_eq_true rfl⟩ hr rfl ?_
  exact ar_icmp_eq (β := Unit) (T := some ()) (F := none) (Rs := ()) (tgt := 872) X dL_law_404 (by decide) (if_pos rfl) (fun _ _ => kk _ _ _ _ hs hm2) (fun _ hf => by cases hf)
set_option maxRecDepth 100000 in
set_option maxHeartbeats 4000000 in
theorem lw_c9 {K : aK} {nm : String} {b L k : Nat} {xs : Nat → Int32} (X : am_C K cL_law 4 RL nm room_1) (HL : am_L0 K b L xs) (hL : L ≤ 2048) (hk : k + 4 ≤ L) (kk : lw_go K 872 k) : lw_go K 409 k := by
  intro sh P I J hs hm
  have h6 := hs.1
  have h7 := hs.2.1
  have hr := hs.room
  obtain ⟨r, I1, I2, e1, e2, hm2⟩ := cl_last hm 
  refine ar_aload_n X dL_law_409 rfl 2 rfl ?_
  refine ar_cVi (As := []) (st := []) X dL_law_410 (am_X6_last h6 e1) lk_L_52 mt_X6_last mi_X6_last (L6_s0 h6) rfl rfl (Nat.le_of_ble_eq_true rfl) ⟨Nat.le_of_ble_eq_true rfl, Nat.le_of_ble_eq_true rfl⟩ hr rfl ?_
  refine ar_aload_n X dL_law_413 rfl 1 rfl ?_
  refine ar_cVi (As := []) (st := [.int r]) X dL_law_414 (am_X7_last h7 e2) lk_L_55 mt_X7_last mi_X7_last (L7_s0 h7) rfl rfl (Nat.le_of_ble_eq_true rfl) ⟨Nat.le_of_ble_eq_true rfl, Nat.le_of_ble_eq_true rfl⟩ hr rfl ?_
  exact ar_icmp_eq (β := Unit) (T := some ()) (F := none) (Rs := ()) (tgt := 872) X dL_law_417 (by decide) (if_pos rfl) (fun _ _ => kk _ _ _ _ hs hm2) (fun _ hf => by cases hf)
set_option maxRecDepth 100000 in
set_option maxHeartbeats 4000000 in
theorem lw_c10 {K : aK} {nm : String} {b L k : Nat} {xs : Nat → Int32} (X : am_C K cL_law 4 RL nm room_1) (HL : am_L0 K b L xs) (hL : L ≤ 2048) (hk : k + 4 ≤ L) (kk : lw_go K 872 k) : lw_go K 422 k := by
  intro sh P I J hs hm
  have h6 := hs.1
  have h7 := hs.2.1
  have hr := hs.room
  obtain ⟨r, I1, I2, e1, e2, hm2⟩ := cl_ask hm (xs (k + 1)) (xs (k + 2))
  refine ar_aload_n X dL_law_422 rfl 2 rfl ?_
  refine lw_arg (j := 1) X HL hL dL_law_423 dL_law_424 dL_law_425 dL_law_426 dL_law_427 (by decide) (by omega) ?_
  refine lw_arg (j := 2) X HL hL dL_law_428 dL_law_429 dL_law_430 dL_law_431 dL_law_432 (by decide) (by omega) ?_
  refine ar_cVi (As := [.int (xs (k + 1)), .int (xs (k + 2))]) (st := []) X dL_law_433 (am_X6_ask h6 e1) lk_L_56 mt_X6_ask mi_X6_ask (L6_s0 h6) rfl rfl (Nat.le_of_ble_eq_true rfl) ⟨Nat.le_of_ble_eq_true rfl, Nat.le_of_ble_eq_true rfl⟩ hr rfl ?_
  refine ar_aload_n X dL_law_436 rfl 1 rfl ?_
  refine lw_arg (j := 1) X HL hL dL_law_437 dL_law_438 dL_law_439 dL_law_440 dL_law_441 (by decide) (by omega) ?_
  refine lw_arg (j := 2) X HL hL dL_law_442 dL_law_443 dL_law_444 dL_law_445 dL_law_446 (by decide) (by omega) ?_
  refine ar_cVi (As := [.int (xs (k + 1)), .int (xs (k + 2))]) (st := [.int r]) X dL_law_447 (am_X7_ask h7 e2) lk_L_59 mt_X7_ask mi_X7_ask (L7_s0 h7) rfl rfl (Nat.le_of_ble_eq_true rfl) ⟨Nat.le_of_ble_eq_true rfl, Nat.le_of_ble_eq_true rfl⟩ hr rfl ?_
  exact ar_icmp_eq (β := Unit) (T := some ()) (F := none) (Rs := ()) (tgt := 872) X dL_law_450 (by decide) (if_pos rfl) (fun _ _ => kk _ _ _ _ hs hm2) (fun _ hf => by cases hf)
set_option maxRecDepth 100000 in
set_option maxHeartbeats 4000000 in
theorem lw_c11 {K : aK} {nm : String} {b L k : Nat} {xs : Nat → Int32} (X : am_C K cL_law 4 RL nm room_1) (HL : am_L0 K b L xs) (hL : L ≤ 2048) (hk : k + 4 ≤ L) (kk : lw_go K 872 k) : lw_go K 455 k := by
  intro sh P I J hs hm
  have h6 := hs.1
  have h7 := hs.2.1
  have hr := hs.room
  obtain ⟨r, I2, e1, e2, hm2⟩ := cl_player hm (xs (k + 1)) (xs (k + 2))
  refine ar_aload_n X dL_law_455 rfl 2 rfl ?_
  refine lw_arg (j := 1) X HL hL dL_law_456 dL_law_457 dL_law_458 dL_law_459 dL_law_460 (by decide) (by omega) ?_
  refine lw_arg (j := 2) X HL hL dL_law_461 dL_law_462 dL_law_463 dL_law_464 dL_law_465 (by decide) (by omega) ?_
  refine ar_cVi (As := [.int (xs (k + 1)), .int (xs (k + 2))]) (st := []) X dL_law_466 (am_X6_player h6 e1) lk_L_60 mt_X6_player mi_X6_player (L6_s0 h6) rfl rfl (Nat.le_of_ble_eq_true rfl) ⟨Nat.le_of_ble_eq_true rfl, Nat.le_of_ble_eq_true rfl⟩ hr rfl ?_
  refine ar_aload_n X dL_law_469 rfl 1 rfl ?_
  refine lw_arg (j := 1) X HL hL dL_law_470 dL_law_471 dL_law_472 dL_law_473 dL_law_474 (by decide) (by omega) ?_
  refine lw_arg (j := 2) X HL hL dL_law_475 dL_law_476 dL_law_477 dL_law_478 dL_law_479 (by decide) (by omega) ?_
  refine ar_cVi (As := [.int (xs (k + 1)), .int (xs (k + 2))]) (st := [.int r]) X dL_law_480 (am_X7_player h7 e2) lk_L_63 mt_X7_player mi_X7_player (L7_s0 h7) rfl rfl (Nat.le_of_ble_eq_true rfl) ⟨Nat.le_of_ble_eq_true rfl, Nat.le_of_ble_eq_true rfl⟩ hr rfl ?_
  exact ar_icmp_eq (β := Unit) (T := some ()) (F := none) (Rs := ()) (tgt := 872) X dL_law_483 (by decide) (if_pos rfl) (fun _ _ => kk _ _ _ _ hs hm2) (fun _ hf => by cases hf)
set_option maxRecDepth 100000 in
set_option maxHeartbeats 4000000 in
theorem lw_c12 {K : aK} {nm : String} {b L k : Nat} {xs : Nat → Int32} (X : am_C K cL_law 4 RL nm room_1) (HL : am_L0 K b L xs) (hL : L ≤ 2048) (hk : k + 4 ≤ L) (kk : lw_go K 872 k) : lw_go K 488 k := by
  intro sh P I J hs hm
  have h6 := hs.1
  have h7 := hs.2.1
  have hr := hs.room
  obtain ⟨r, e1, e2⟩ := cl_about hm (xs (k + 1)) (xs (k + 2))
  refine ar_aload_n X dL_law_488 rfl 2 rfl ?_
  refine lw_arg (j := 1) X HL hL dL_law_489 dL_law_490 dL_law_491 dL_law_492 dL_law_493 (by decide) (by omega) ?_
  refine lw_arg (j := 2) X HL hL dL_law_494 dL_law_495 dL_law_496 dL_law_497 dL_law_498 (by decide) (by omega) ?_
  refine ar_cVi (As := [.int (xs (k + 1)), .int (xs (k + 2))]) (st := []) X dL_law_499 (am_X6_about h6 e1) lk_L_64 mt_X6_about mi_X6_about (L6_s0 h6) rfl rfl (Nat.le_of_ble_eq_true rfl) ⟨Nat.le_of_ble_eq_true rfl, Nat.le_of_ble_eq_true rfl⟩ hr rfl ?_
  refine ar_aload_n X dL_law_502 rfl 1 rfl ?_
  refine lw_arg (j := 1) X HL hL dL_law_503 dL_law_504 dL_law_505 dL_law_506 dL_law_507 (by decide) (by omega) ?_
  refine lw_arg (j := 2) X HL hL dL_law_508 dL_law_509 dL_law_510 dL_law_511 dL_law_512 (by decide) (by omega) ?_
  refine ar_cVi (As := [.int (xs (k + 1)), .int (xs (k + 2))]) (st := [.int r]) X dL_law_513 (am_X7_about h7 e2) lk_L_67 mt_X7_about mi_X7_about (L7_s0 h7) rfl rfl (Nat.le_of_ble_eq_true rfl) ⟨Nat.le_of_ble_eq_true rfl, Nat.le_of_ble_eq_true rfl⟩ hr rfl ?_
  exact ar_icmp_eq (β := Unit) (T := some ()) (F := none) (Rs := ()) (tgt := 872) X dL_law_516 (by decide) (if_pos rfl) (fun _ _ => kk _ _ _ _ hs hm) (fun _ hf => by cases hf)
set_option maxRecDepth 100000 in
set_option maxHeartbeats 4000000 in
theorem lw_c13 {K : aK} {nm : String} {b L k : Nat} {xs : Nat → Int32} (X : am_C K cL_law 4 RL nm room_1) (HL : am_L0 K b L xs) (hL : L ≤ 2048) (hk : k + 4 ≤ L) (kk : lw_go K 872 k) : lw_go K 521 k := by
  intro sh P I J hs hm
  have h6 := hs.1
  have h7 := hs.2.1
  have hr := hs.room
  obtain ⟨r, e1, e2⟩ := cl_count hm (xs (k + 1))
  refine ar_aload_n X dL_law_521 rfl 2 rfl ?_
  refine lw_arg (j := 1) X HL hL dL_law_522 dL_law_523 dL_law_524 dL_law_525 dL_law_526 (by decide) (by omega) ?_
  refine ar_cVi (As := [.int (xs (k + 1))]) (st := []) X dL_law_527 (am_X6_count h6 e1) lk_L_68 mt_X6_count mi_X6_count (L6_s0 h6) rfl rfl (Nat.le_of_ble_eq_true rfl) ⟨Nat.le_of_ble_eq_true rfl, Nat.le_of_ble_eq_true rfl⟩ hr rfl ?_
  refine ar_aload_n X dL_law_530 rfl 1 rfl ?_
  refine lw_arg (j := 1) X HL hL dL_law_531 dL_law_532 dL_law_533 dL_law_534 dL_law_535 (by decide) (by omega) ?_
  refine ar_cVi (As := [.int (xs (k + 1))]) (st := [.int r]) X dL_law_536 (am_X7_count h7 e2) lk_L_71 mt_X7_count mi_X7_count (L7_s0 h7) rfl rfl (Nat.le_of_ble_eq_true rfl) ⟨Nat.le_of_ble_eq_true rfl, Nat.le_of_ble_eq_true rfl⟩ hr rfl ?_
  exact ar_icmp_eq (β := Unit) (T := some ()) (F := none) (Rs := ()) (tgt := 872) X dL_law_539 (by decide) (if_pos rfl) (fun _ _ => kk _ _ _ _ hs hm) (fun _ hf => by cases hf)
set_option maxRecDepth 100000 in
set_option maxHeartbeats 4000000 in
theorem lw_c14 {K : aK} {nm : String} {b L k : Nat} {xs : Nat → Int32} (X : am_C K cL_law 4 RL nm room_1) (HL : am_L0 K b L xs) (hL : L ≤ 2048) (hk : k + 4 ≤ L) (kk : lw_go K 872 k) : lw_go K 544 k := by
  intro sh P I J hs hm
  have h6 := hs.1
  have h7 := hs.2.1
  have hr := hs.room
  obtain ⟨r, J1, J2, e1, e2⟩ := cl_known hm J (xs (k + 1)) (xs (k + 2))
  refine ar_aload_n X dL_law_544 rfl 2 rfl ?_
  refine lw_arg (j := 1) X HL hL dL_law_545 dL_law_546 dL_law_547 dL_law_548 dL_law_549 (by decide) (by omega) ?_
  refine lw_arg (j := 2) X HL hL dL_law_550 dL_law_551 dL_law_552 dL_law_553 dL_law_554 (by decide) (by omega) ?_
  refine ar_cVi (As := [.int (xs (k + 1)), .int (xs (k + 2))]) (st := []) X dL_law_555 (am_X6_known h6 e1) lk_L_72 mt_X6_known mi_X6_known (L6_s0 h6) rfl rfl (Nat.le_of_ble_eq_true rfl) ⟨Nat.le_of_ble_eq_true rfl, Nat.le_of_ble_eq_true rfl⟩ hr rfl ?_
  refine ar_aload_n X dL_law_558 rfl 1 rfl ?_
  refine lw_arg (j := 1) X HL hL dL_law_559 dL_law_560 dL_law_561 dL_law_562 dL_law_563 (by decide) (by omega) ?_
  refine lw_arg (j := 2) X HL hL dL_law_564 dL_law_565 dL_law_566 dL_law_567 dL_law_568 (by decide) (by omega) ?_
  refine ar_cVi (As := [.int (xs (k + 1)), .int (xs (k + 2))]) (st := [.int r]) X dL_law_569 (am_X7_known h7 e2) lk_L_75 mt_X7_known mi_X7_known (L7_s0 h7) rfl rfl (Nat.le_of_ble_eq_true rfl) ⟨Nat.le_of_ble_eq_true rfl, Nat.le_of_ble_eq_true rfl⟩ hr rfl ?_
  exact ar_icmp_eq (β := Unit) (T := some ()) (F := none) (Rs := ()) (tgt := 872) X dL_law_572 (by decide) (if_pos rfl) (fun _ _ => kk _ _ _ _ hs hm) (fun _ hf => by cases hf)
set_option maxRecDepth 100000 in
set_option maxHeartbeats 4000000 in
theorem lw_c15 {K : aK} {nm : String} {b L k : Nat} {xs : Nat → Int32} (X : am_C K cL_law 4 RL nm room_1) (HL : am_L0 K b L xs) (hL : L ≤ 2048) (hk : k + 4 ≤ L) (kk : lw_go K 872 k) : lw_go K 577 k := by
  intro sh P I J hs hm
  have h6 := hs.1
  have h7 := hs.2.1
  have hr := hs.room
  obtain ⟨r, J1, J2, e1, e2⟩ := cl_ways hm J 
  refine ar_aload_n X dL_law_577 rfl 2 rfl ?_
  refine ar_cVl (As := []) (st := []) X dL_law_578 (am_X6_ways h6 e1) lk_L_76 mt_X6_ways mi_X6_ways (L6_s0 h6) rfl rfl (Nat.le_of_ble_eq_true rfl) ⟨Nat.le_of_ble_eq_true rfl, Nat.le_of_ble_eq_true rfl⟩ hr rfl ?_
  refine ar_aload_n X dL_law_581 rfl 1 rfl ?_
  refine ar_cVl (As := []) (st := [.long r]) X dL_law_582 (am_X7_ways h7 e2) lk_L_80 mt_X7_ways mi_X7_ways (L7_s0 h7) rfl rfl (Nat.le_of_ble_eq_true rfl) ⟨Nat.le_of_ble_eq_true rfl, Nat.le_of_ble_eq_true rfl⟩ hr rfl ?_
  refine ar_lcmp X dL_law_585 ?_
  rw [lw_cmp_self]
  exact ar_if_eq (β := Unit) (T := some ()) (F := none) (Rs := ()) (tgt := 872) X dL_law_586 (by decide) (if_pos rfl) (fun _ _ => kk _ _ _ _ hs hm) (fun _ hf => by cases hf)
set_option maxRecDepth 100000 in
set_option maxHeartbeats 4000000 in
theorem lw_c16 {K : aK} {nm : String} {b L k : Nat} {xs : Nat → Int32} (X : am_C K cL_law 4 RL nm room_1) (HL : am_L0 K b L xs) (hL : L ≤ 2048) (hk : k + 4 ≤ L) (kk : lw_go K 872 k) : lw_go K 591 k := by
  intro sh P I J hs hm
  have h6 := hs.1
  have h7 := hs.2.1
  have hr := hs.room
  obtain ⟨r, J1, J2, e1, e2⟩ := cl_canPay hm J (xs (k + 1)) (xs (k + 2))
  refine ar_aload_n X dL_law_591 rfl 2 rfl ?_
  refine lw_arg (j := 1) X HL hL dL_law_592 dL_law_593 dL_law_594 dL_law_595 dL_law_596 (by decide) (by omega) ?_
  refine lw_arg (j := 2) X HL hL dL_law_597 dL_law_598 dL_law_599 dL_law_600 dL_law_601 (by decide) (by omega) ?_
  refine ar_cVl (As := [.int (xs (k + 1)), .int (xs (k + 2))]) (st := []) X dL_law_602 (am_X6_canPay h6 e1) lk_L_81 mt_X6_canPay mi_X6_canPay (L6_s0 h6) rfl rfl (Nat.le_of_ble_eq_true rfl) ⟨Nat.le_of_ble_eq_true rfl, Nat.le_of_ble_eq_true rfl⟩ hr rfl ?_
  refine ar_aload_n X dL_law_605 rfl 1 rfl ?_
  refine lw_arg (j := 1) X HL hL dL_law_606 dL_law_607 dL_law_608 dL_law_609 dL_law_610 (by decide) (by omega) ?_
  refine lw_arg (j := 2) X HL hL dL_law_611 dL_law_612 dL_law_613 dL_law_614 dL_law_615 (by decide) (by omega) ?_
  refine ar_cVl (As := [.int (xs (k + 1)), .int (xs (k + 2))]) (st := [.long r]) X dL_law_616 (am_X7_canPay h7 e2) lk_L_85 mt_X7_canPay mi_X7_canPay (L7_s0 h7) rfl rfl (Nat.le_of_ble_eq_true rfl) ⟨Nat.le_of_ble_eq_true rfl, Nat.le_of_ble_eq_true rfl⟩ hr rfl ?_
  refine ar_lcmp X dL_law_619 ?_
  rw [lw_cmp_self]
  exact ar_if_eq (β := Unit) (T := some ()) (F := none) (Rs := ()) (tgt := 872) X dL_law_620 (by decide) (if_pos rfl) (fun _ _ => kk _ _ _ _ hs hm) (fun _ hf => by cases hf)
set_option maxRecDepth 100000 in
set_option maxHeartbeats 4000000 in
theorem lw_c17 {K : aK} {nm : String} {b L k : Nat} {xs : Nat → Int32} (X : am_C K cL_law 4 RL nm room_1) (HL : am_L0 K b L xs) (hL : L ≤ 2048) (hk : k + 4 ≤ L) (kk : lw_go K 872 k) : lw_go K 625 k := by
  intro sh P I J hs hm
  have h6 := hs.1
  have h7 := hs.2.1
  have hr := hs.room
  obtain ⟨r, I1, I2, e1, e2, hm2⟩ := cl_forecast hm (xs (k + 1)) (xs (k + 2)) (xs (k + 3))
  refine ar_aload_n X dL_law_625 rfl 2 rfl ?_
  refine lw_arg (j := 1) X HL hL dL_law_626 dL_law_627 dL_law_628 dL_law_629 dL_law_630 (by decide) (by omega) ?_
  refine lw_arg (j := 2) X HL hL dL_law_631 dL_law_632 dL_law_633 dL_law_634 dL_law_635 (by decide) (by omega) ?_
  refine lw_arg (j := 3) X HL hL dL_law_636 dL_law_637 dL_law_638 dL_law_639 dL_law_640 (by decide) (by omega) ?_
  refine ar_cVi (As := [.int (xs (k + 1)), .int (xs (k + 2)), .int (xs (k + 3))]) (st := []) X dL_law_641 (am_X6_forecast h6 e1) lk_L_86 mt_X6_forecast mi_X6_forecast (L6_s0 h6) rfl rfl (Nat.le_of_ble_eq_true rfl) ⟨Nat.le_of_ble_eq_true rfl, Nat.le_of_ble_eq_true rfl⟩ hr rfl ?_
  refine ar_aload_n X dL_law_644 rfl 1 rfl ?_
  refine lw_arg (j := 1) X HL hL dL_law_645 dL_law_646 dL_law_647 dL_law_648 dL_law_649 (by decide) (by omega) ?_
  refine lw_arg (j := 2) X HL hL dL_law_650 dL_law_651 dL_law_652 dL_law_653 dL_law_654 (by decide) (by omega) ?_
  refine lw_arg (j := 3) X HL hL dL_law_655 dL_law_656 dL_law_657 dL_law_658 dL_law_659 (by decide) (by omega) ?_
  refine ar_cVi (As := [.int (xs (k + 1)), .int (xs (k + 2)), .int (xs (k + 3))]) (st := [.int r]) X dL_law_660 (am_X7_forecast h7 e2) lk_L_90 mt_X7_forecast mi_X7_forecast (L7_s0 h7) rfl rfl (Nat.le_of_ble_eq_true rfl) ⟨Nat.le_of_ble_eq_true rfl, Nat.le_of_ble_eq_true rfl⟩ hr rfl ?_
  exact ar_icmp_eq (β := Unit) (T := some ()) (F := none) (Rs := ()) (tgt := 872) X dL_law_663 (by decide) (if_pos rfl) (fun _ _ => kk _ _ _ _ hs hm2) (fun _ hf => by cases hf)
set_option maxRecDepth 100000 in
set_option maxHeartbeats 4000000 in
theorem lw_c18 {K : aK} {nm : String} {b L k : Nat} {xs : Nat → Int32} (X : am_C K cL_law 4 RL nm room_1) (HL : am_L0 K b L xs) (hL : L ≤ 2048) (hk : k + 4 ≤ L) (kk : lw_go K 872 k) : lw_go K 668 k := by
  intro sh P I J hs hm
  have h6 := hs.1
  have h7 := hs.2.1
  have hr := hs.room
  obtain ⟨r, I1, I2, e1, e2, hm2⟩ := cl_bestMode hm (xs (k + 1)) (xs (k + 2))
  refine ar_aload_n X dL_law_668 rfl 2 rfl ?_
  refine lw_arg (j := 1) X HL hL dL_law_669 dL_law_670 dL_law_671 dL_law_672 dL_law_673 (by decide) (by omega) ?_
  refine lw_arg (j := 2) X HL hL dL_law_674 dL_law_675 dL_law_676 dL_law_677 dL_law_678 (by decide) (by omega) ?_
  refine ar_cVi (As := [.int (xs (k + 1)), .int (xs (k + 2))]) (st := []) X dL_law_679 (am_X6_bestMode h6 e1) lk_L_91 mt_X6_bestMode mi_X6_bestMode (L6_s0 h6) rfl rfl (Nat.le_of_ble_eq_true rfl) ⟨Nat.le_of_ble_eq_true rfl, Nat.le_of_ble_eq_true rfl⟩ hr rfl ?_
  refine ar_aload_n X dL_law_682 rfl 1 rfl ?_
  refine lw_arg (j := 1) X HL hL dL_law_683 dL_law_684 dL_law_685 dL_law_686 dL_law_687 (by decide) (by omega) ?_
  refine lw_arg (j := 2) X HL hL dL_law_688 dL_law_689 dL_law_690 dL_law_691 dL_law_692 (by decide) (by omega) ?_
  refine ar_cVi (As := [.int (xs (k + 1)), .int (xs (k + 2))]) (st := [.int r]) X dL_law_693 (am_X7_bestMode h7 e2) lk_L_94 mt_X7_bestMode mi_X7_bestMode (L7_s0 h7) rfl rfl (Nat.le_of_ble_eq_true rfl) ⟨Nat.le_of_ble_eq_true rfl, Nat.le_of_ble_eq_true rfl⟩ hr rfl ?_
  exact ar_icmp_eq (β := Unit) (T := some ()) (F := none) (Rs := ()) (tgt := 872) X dL_law_696 (by decide) (if_pos rfl) (fun _ _ => kk _ _ _ _ hs hm2) (fun _ hf => by cases hf)
set_option maxRecDepth 100000 in
set_option maxHeartbeats 4000000 in
theorem lw_c19 {K : aK} {nm : String} {b L k : Nat} {xs : Nat → Int32} (X : am_C K cL_law 4 RL nm room_1) (HL : am_L0 K b L xs) (hL : L ≤ 2048) (hk : k + 4 ≤ L) (kk : lw_go K 872 k) : lw_go K 701 k := by
  intro sh P I J hs hm
  have h6 := hs.1
  have h7 := hs.2.1
  have hr := hs.room
  obtain ⟨r, I2, e1, e2, hm2⟩ := cl_leastBid hm (xs (k + 1)) (xs (k + 2))
  refine ar_aload_n X dL_law_701 rfl 2 rfl ?_
  refine lw_arg (j := 1) X HL hL dL_law_702 dL_law_703 dL_law_704 dL_law_705 dL_law_706 (by decide) (by omega) ?_
  refine lw_arg (j := 2) X HL hL dL_law_707 dL_law_708 dL_law_709 dL_law_710 dL_law_711 (by decide) (by omega) ?_
  refine ar_cVi (As := [.int (xs (k + 1)), .int (xs (k + 2))]) (st := []) X dL_law_712 (am_X6_leastBid h6 e1) lk_L_95 mt_X6_leastBid mi_X6_leastBid (L6_s0 h6) rfl rfl (Nat.le_of_ble_eq_true rfl) ⟨Nat.le_of_ble_eq_true rfl, Nat.le_of_ble_eq_true rfl⟩ hr rfl ?_
  refine ar_aload_n X dL_law_715 rfl 1 rfl ?_
  refine lw_arg (j := 1) X HL hL dL_law_716 dL_law_717 dL_law_718 dL_law_719 dL_law_720 (by decide) (by omega) ?_
  refine lw_arg (j := 2) X HL hL dL_law_721 dL_law_722 dL_law_723 dL_law_724 dL_law_725 (by decide) (by omega) ?_
  refine ar_cVi (As := [.int (xs (k + 1)), .int (xs (k + 2))]) (st := [.int r]) X dL_law_726 (am_X7_leastBid h7 e2) lk_L_98 mt_X7_leastBid mi_X7_leastBid (L7_s0 h7) rfl rfl (Nat.le_of_ble_eq_true rfl) ⟨Nat.le_of_ble_eq_true rfl, Nat.le_of_ble_eq_true rfl⟩ hr rfl ?_
  exact ar_icmp_eq (β := Unit) (T := some ()) (F := none) (Rs := ()) (tgt := 872) X dL_law_729 (by decide) (if_pos rfl) (fun _ _ => kk _ _ _ _ hs hm2) (fun _ hf => by cases hf)
set_option maxRecDepth 100000 in
set_option maxHeartbeats 4000000 in
theorem lw_c20 {K : aK} {nm : String} {b L k : Nat} {xs : Nat → Int32} (X : am_C K cL_law 4 RL nm room_1) (HL : am_L0 K b L xs) (hL : L ≤ 2048) (hk : k + 4 ≤ L) (kk : lw_go K 872 k) : lw_go K 734 k := by
  intro sh P I J hs hm
  have h6 := hs.1
  have h7 := hs.2.1
  have hr := hs.room
  obtain ⟨r, I1, I2, e1, e2, hm2⟩ := cl_put hm (am_lshl (xs (k + 1)).toInt64 32 ||| ((xs (k + 2)).toInt64 &&& 4294967295))
  refine ar_aload_n X dL_law_734 rfl 2 rfl ?_
  refine lw_arg (j := 1) X HL hL dL_law_735 dL_law_736 dL_law_737 dL_law_738 dL_law_739 (by decide) (by omega) ?_
  refine ar_i2l X dL_law_740 ?_
  refine ar_bipush (v := 32) X dL_law_741 (by decide) ?_
  refine ar_lshl X dL_law_743 ?_
  refine lw_arg (j := 2) X HL hL dL_law_744 dL_law_745 dL_law_746 dL_law_747 dL_law_748 (by decide) (by omega) ?_
  refine ar_i2l X dL_law_749 ?_
  refine ar_ldc2 X dL_law_750 ct_L_99 ?_
  refine ar_land X dL_law_753 ?_
  refine ar_lor X dL_law_754 ?_
  refine ar_cVi (As := [.long (am_lshl (xs (k + 1)).toInt64 32 ||| ((xs (k + 2)).toInt64 &&& 4294967295))]) (st := []) X dL_law_755 (am_X6_put h6 e1) lk_L_101 mt_X6_put mi_X6_put (L6_s0 h6) rfl rfl (Nat.le_of_ble_eq_true rfl) ⟨Nat.le_of_ble_eq_true rfl, Nat.le_of_ble_eq_true rfl⟩ hr rfl ?_
  refine ar_aload_n X dL_law_758 rfl 1 rfl ?_
  refine lw_arg (j := 1) X HL hL dL_law_759 dL_law_760 dL_law_761 dL_law_762 dL_law_763 (by decide) (by omega) ?_
  refine ar_i2l X dL_law_764 ?_
  refine ar_bipush (v := 32) X dL_law_765 (by decide) ?_
  refine ar_lshl X dL_law_767 ?_
  refine lw_arg (j := 2) X HL hL dL_law_768 dL_law_769 dL_law_770 dL_law_771 dL_law_772 (by decide) (by omega) ?_
  refine ar_i2l X dL_law_773 ?_
  refine ar_ldc2 X dL_law_774 ct_L_99 ?_
  refine ar_land X dL_law_777 ?_
  refine ar_lor X dL_law_778 ?_
  refine ar_cVi (As := [.long (am_lshl (xs (k + 1)).toInt64 32 ||| ((xs (k + 2)).toInt64 &&& 4294967295))]) (st := [.int r]) X dL_law_779 (am_X7_put h7 e2) lk_L_105 mt_X7_put mi_X7_put (L7_s0 h7) rfl rfl (Nat.le_of_ble_eq_true rfl) ⟨Nat.le_of_ble_eq_true rfl, Nat.le_of_ble_eq_true rfl⟩ hr rfl ?_
  exact ar_icmp_eq (β := Unit) (T := some ()) (F := none) (Rs := ()) (tgt := 872) X dL_law_782 (by decide) (if_pos rfl) (fun _ _ => kk _ _ _ _ hs hm2) (fun _ hf => by cases hf)
set_option maxRecDepth 100000 in
set_option maxHeartbeats 4000000 in
theorem lw_c21 {K : aK} {nm : String} {b L k : Nat} {xs : Nat → Int32} (X : am_C K cL_law 4 RL nm room_1) (HL : am_L0 K b L xs) (hL : L ≤ 2048) (hk : k + 4 ≤ L) (kk : lw_go K 872 k) : lw_go K 787 k := by
  intro sh P I J hs hm
  have h6 := hs.1
  have h7 := hs.2.1
  have hr := hs.room
  obtain ⟨r, I1, I2, e1, e2, hm2⟩ := cl_wipe hm 
  refine ar_aload_n X dL_law_787 rfl 2 rfl ?_
  refine ar_cVi (As := []) (st := []) X dL_law_788 (am_X6_wipe h6 e1) lk_L_106 mt_X6_wipe mi_X6_wipe (L6_s0 h6) rfl rfl (Nat.le_of_ble_eq_true rfl) ⟨Nat.le_of_ble_eq_true rfl, Nat.le_of_ble_eq_true rfl⟩ hr rfl ?_
  refine ar_aload_n X dL_law_791 rfl 1 rfl ?_
  refine ar_cVi (As := []) (st := [.int r]) X dL_law_792 (am_X7_wipe h7 e2) lk_L_109 mt_X7_wipe mi_X7_wipe (L7_s0 h7) rfl rfl (Nat.le_of_ble_eq_true rfl) ⟨Nat.le_of_ble_eq_true rfl, Nat.le_of_ble_eq_true rfl⟩ hr rfl ?_
  exact ar_icmp_eq (β := Unit) (T := some ()) (F := none) (Rs := ()) (tgt := 872) X dL_law_795 (by decide) (if_pos rfl) (fun _ _ => kk _ _ _ _ hs hm2) (fun _ hf => by cases hf)
set_option maxRecDepth 100000 in
set_option maxHeartbeats 4000000 in
theorem lw_c22 {K : aK} {nm : String} {b L k : Nat} {xs : Nat → Int32} (X : am_C K cL_law 4 RL nm room_1) (HL : am_L0 K b L xs) (hL : L ≤ 2048) (hk : k + 4 ≤ L) (kk : lw_go K 872 k) : lw_go K 800 k := by
  intro sh P I J hs hm
  have h6 := hs.1
  have h7 := hs.2.1
  have hr := hs.room
  obtain ⟨r, I1, I2, e1, e2, hm2⟩ := cl_fault hm 
  refine ar_aload_n X dL_law_800 rfl 2 rfl ?_
  refine ar_cVi (As := []) (st := []) X dL_law_801 (am_X6_fault h6 e1) lk_L_110 mt_X6_fault mi_X6_fault (L6_s0 h6) rfl rfl (Nat.le_of_ble_eq_true rfl) ⟨Nat.le_of_ble_eq_true rfl, Nat.le_of_ble_eq_true rfl⟩ hr rfl ?_
  refine ar_aload_n X dL_law_804 rfl 1 rfl ?_
  refine ar_cVi (As := []) (st := [.int r]) X dL_law_805 (am_X7_fault h7 e2) lk_L_113 mt_X7_fault mi_X7_fault (L7_s0 h7) rfl rfl (Nat.le_of_ble_eq_true rfl) ⟨Nat.le_of_ble_eq_true rfl, Nat.le_of_ble_eq_true rfl⟩ hr rfl ?_
  exact ar_icmp_eq (β := Unit) (T := some ()) (F := none) (Rs := ()) (tgt := 872) X dL_law_808 (by decide) (if_pos rfl) (fun _ _ => kk _ _ _ _ hs hm2) (fun _ hf => by cases hf)
set_option maxRecDepth 100000 in
set_option maxHeartbeats 4000000 in
theorem lw_c23 {K : aK} {nm : String} {b L k : Nat} {xs : Nat → Int32} (X : am_C K cL_law 4 RL nm room_1) (HL : am_L0 K b L xs) (hL : L ≤ 2048) (hk : k + 4 ≤ L) (kk : lw_go K 872 k) : lw_go K 813 k := by
  intro sh P I J hs hm
  have h6 := hs.1
  have h7 := hs.2.1
  have hr := hs.room
  obtain ⟨r, I1, I2, e1, e2, hm2⟩ := cl_carryOut hm 
  refine ar_aload_n X dL_law_813 rfl 2 rfl ?_
  refine ar_cVi (As := []) (st := []) X dL_law_814 (am_X6_carryOut h6 e1) lk_L_114 mt_X6_carryOut mi_X6_carryOut (L6_s0 h6) rfl rfl (Nat.le_of_ble_eq_true rfl) ⟨Nat.le_of_ble_eq_true rfl, Nat.le_of_ble_eq_true rfl⟩ hr rfl ?_
  refine ar_aload_n X dL_law_817 rfl 1 rfl ?_
  refine ar_cVi (As := []) (st := [.int r]) X dL_law_818 (am_X7_carryOut h7 e2) lk_L_117 mt_X7_carryOut mi_X7_carryOut (L7_s0 h7) rfl rfl (Nat.le_of_ble_eq_true rfl) ⟨Nat.le_of_ble_eq_true rfl, Nat.le_of_ble_eq_true rfl⟩ hr rfl ?_
  exact ar_icmp_eq (β := Unit) (T := some ()) (F := none) (Rs := ()) (tgt := 872) X dL_law_821 (by decide) (if_pos rfl) (fun _ _ => kk _ _ _ _ hs hm2) (fun _ hf => by cases hf)
set_option maxRecDepth 100000 in
set_option maxHeartbeats 4000000 in
theorem lw_c24 {K : aK} {nm : String} {b L k : Nat} {xs : Nat → Int32} (X : am_C K cL_law 4 RL nm room_1) (HL : am_L0 K b L xs) (hL : L ≤ 2048) (hk : k + 4 ≤ L) (kk : lw_go K 872 k) : lw_go K 826 k := by
  intro sh P I J hs hm
  have h6 := hs.1
  have h7 := hs.2.1
  have hr := hs.room
  obtain ⟨r, sh1, P1, I1, I2, mc, ms, e1, e2, hs1, hm2, hlen, hms⟩ := cl_save hs hm J (xs (k + 1))
  refine ar_aload_n X dL_law_826 rfl 2 rfl ?_
  refine lw_arg (j := 1) X HL hL dL_law_827 dL_law_828 dL_law_829 dL_law_830 dL_law_831 (by decide) (by omega) ?_
  refine ar_callV (q := 0) (As := [.int (xs (k + 1))]) (st := []) X dL_law_832 e1 lk_L_118 mt_X6_save mi_X6_save ⟨_, _, _, L6_s0 h6, rfl⟩ rfl (Nat.le_of_ble_eq_true rfl) ⟨Nat.le_of_ble_eq_true rfl, Nat.le_of_ble_eq_true rfl⟩ ⟨?_, ?_⟩ (by omega) (Or.inr ⟨⟨trivial, Or.inl ?_, Or.inl ?_, Or.inr (Nat.le_refl _), trivial⟩, trivial⟩) (fun v hv β => by cases hv; rfl) ?_
  · have := hs1.len; show sh.length + mc ≤ 600000; omega
  · have := hs1.len; show 8000 + 115 * sh.length + ms ≤ 7302250; omega
  · have := hs.2.2.2.1; show 37 < sh.length; omega
  · have := hs.2.2.2.1; show 0 < sh.length; omega
  refine ar_widen (k := sh1.length) (n := 8000 + 115 * sh1.length) (by omega) (by omega) ?_
  have h6 := hs1.1
  have h7 := hs1.2.1
  have hr := hs1.room
  show AW K 4 835 (lw_lo k) [.int r] sh1 P1 I1 J sh1.length (8000 + 115 * sh1.length)
  refine ar_aload_n X dL_law_835 rfl 1 rfl ?_
  refine lw_arg (j := 1) X HL hL dL_law_836 dL_law_837 dL_law_838 dL_law_839 dL_law_840 (by decide) (by omega) ?_
  refine ar_cVi (As := [.int (xs (k + 1))]) (st := [.int r]) X dL_law_841 (am_X7_save h7 e2) lk_L_121 mt_X7_save mi_X7_save (L7_s0 h7) rfl rfl (Nat.le_of_ble_eq_true rfl) ⟨Nat.le_of_ble_eq_true rfl, Nat.le_of_ble_eq_true rfl⟩ hr rfl ?_
  exact ar_icmp_eq (β := Unit) (T := some ()) (F := none) (Rs := ()) (tgt := 872) X dL_law_844 (by decide) (if_pos rfl) (fun _ _ => kk _ _ _ _ hs1 hm2) (fun _ hf => by cases hf)
set_option maxRecDepth 100000 in
set_option maxHeartbeats 4000000 in
theorem lw_c25 {K : aK} {nm : String} {b L k : Nat} {xs : Nat → Int32} (X : am_C K cL_law 4 RL nm room_1) (HL : am_L0 K b L xs) (hL : L ≤ 2048) (hk : k + 4 ≤ L) (kk : lw_go K 872 k) : lw_go K 849 k := by
  intro sh P I J hs hm
  have h6 := hs.1
  have h7 := hs.2.1
  have hr := hs.room
  obtain ⟨r, I1, I2, e1, e2, hm2⟩ := cl_restore hs hm J (xs (k + 1))
  refine ar_aload_n X dL_law_849 rfl 2 rfl ?_
  refine lw_arg (j := 1) X HL hL dL_law_850 dL_law_851 dL_law_852 dL_law_853 dL_law_854 (by decide) (by omega) ?_
  refine ar_cVi (As := [.int (xs (k + 1))]) (st := []) X dL_law_855 (e1) lk_L_122 mt_X6_restore mi_X6_restore (L6_s0 h6) rfl rfl (Nat.le_of_ble_eq_true rfl) ⟨Nat.le_of_ble_eq_true rfl, Nat.le_of_ble_eq_true rfl⟩ hr rfl ?_
  refine ar_aload_n X dL_law_858 rfl 1 rfl ?_
  refine lw_arg (j := 1) X HL hL dL_law_859 dL_law_860 dL_law_861 dL_law_862 dL_law_863 (by decide) (by omega) ?_
  refine ar_cVi (As := [.int (xs (k + 1))]) (st := [.int r]) X dL_law_864 (am_X7_restore h7 e2) lk_L_125 mt_X7_restore mi_X7_restore (L7_s0 h7) rfl rfl (Nat.le_of_ble_eq_true rfl) ⟨Nat.le_of_ble_eq_true rfl, Nat.le_of_ble_eq_true rfl⟩ hr rfl ?_
  exact ar_icmp_eq (β := Unit) (T := some ()) (F := none) (Rs := ()) (tgt := 872) X dL_law_867 (by decide) (if_pos rfl) (fun _ _ => kk _ _ _ _ hs hm2) (fun _ hf => by cases hf)
