/-! ===== the law: its calls, one by one (written by wip/whole/gen/law.py) ===== -/
theorem law_place {κ : gK} {l : Launch} {D : va_G} {ad am : Nat → Nat} {cy : Nat → ClassId} {b bs L : Nat} {xs : Nat → Int32} {A : Nat → Prop} {σ μ : gMem} {n : Nat} (C : gC κ cL_law RL gLw 4 (gGL D ad am cy b) A room_1) (El : κ.2.1 = l) (hX : va_X bs L xs (gks κ) (gks κ).heap) (hbl : bs < (gks κ).heap.size) (hbA : ¬ A bs) (hGX : gInj (gGX D ad cy b)) (hGM : gInj (gGM D am cy b)) (hGL : gInj (gGL D ad am cy b)) (hL : L ≤ 384) (hn : n + 6 ≤ L) (hI : INV σ μ) (K : ∀ σ' μ', INV σ' μ' → wx κ (gGL D ad am cy b) A 4 (mrg σ' μ') 1269 [(3, .int (nI n)), (2, .ref (am 0)), (1, .ref (ad 0)), (0, .ref bs)] []) : wx κ (gGL D ad am cy b) A 4 (mrg σ μ) 180 [(3, .int (nI n)), (2, .ref (am 0)), (1, .ref (ad 0)), (0, .ref bs)] [] := by
  obtain ⟨r, σ', μ', f1, f2, I'⟩ := p_place hI (xs (n + 1))
  have KK := K σ' μ' I'
  refine x_aln C 2 rfl dL_law_180 rfl ?_
  refine x_aln C 3 rfl dL_law_181 rfl ?_
  refine x_iln C 0 rfl dL_law_182 rfl ?_
  refine x_ic (v := 1) C (by decide) dL_law_183 rfl ?_
  refine x_iadd C dL_law_184 rfl ?_
  refine z_sld C hX hbl hbA (n := n + 1) (nI_add n 1) (by omega) (by omega) dL_law_185 rfl ?_
  refine z_cX (As := [.int (xs (n + 1))]) (rest := []) C hGL El 1 (c_X6_place hGX f1) (gBv km_L_13 kin_X6_place ksel_X6_place kini_X6 kc_X6_place) rfl rfl rfl ⟨rfl, by decide +kernel, by decide +kernel, by decide +kernel⟩ ⟨Nat.le_of_ble_eq_true rfl, Nat.le_of_ble_eq_true rfl⟩ rfl rfl (Nat.le_of_ble_eq_true rfl) dL_law_186 rfl ?_
  refine x_aln C 1 rfl dL_law_189 rfl ?_
  refine x_aln C 3 rfl dL_law_190 rfl ?_
  refine x_iln C 0 rfl dL_law_191 rfl ?_
  refine x_ic (v := 1) C (by decide) dL_law_192 rfl ?_
  refine x_iadd C dL_law_193 rfl ?_
  refine z_sld C hX hbl hbA (n := n + 1) (nI_add n 1) (by omega) (by omega) dL_law_194 rfl ?_
  refine z_cM (As := [.int (xs (n + 1))]) (rest := [.int r]) C hGL El 1 (c_X7_place hGM f2) (gBv km_L_17 kin_X7_place ksel_X7_place kini_X7 kc_X7_place) rfl rfl rfl ⟨rfl, by decide +kernel, by decide +kernel, by decide +kernel⟩ ⟨Nat.le_of_ble_eq_true rfl, Nat.le_of_ble_eq_true rfl⟩ rfl rfl (Nat.le_of_ble_eq_true rfl) dL_law_195 rfl ?_
  exact x_ic_eq (tgt := 1269) C dL_law_198 (by decide) rfl (fun _ => KK) (fun hc => absurd rfl hc)
theorem law_make {κ : gK} {l : Launch} {D : va_G} {ad am : Nat → Nat} {cy : Nat → ClassId} {b bs L : Nat} {xs : Nat → Int32} {A : Nat → Prop} {σ μ : gMem} {n : Nat} (C : gC κ cL_law RL gLw 4 (gGL D ad am cy b) A room_1) (El : κ.2.1 = l) (hX : va_X bs L xs (gks κ) (gks κ).heap) (hbl : bs < (gks κ).heap.size) (hbA : ¬ A bs) (hGX : gInj (gGX D ad cy b)) (hGM : gInj (gGM D am cy b)) (hGL : gInj (gGL D ad am cy b)) (hL : L ≤ 384) (hn : n + 6 ≤ L) (hI : INV σ μ) (K : ∀ σ' μ', INV σ' μ' → wx κ (gGL D ad am cy b) A 4 (mrg σ' μ') 1269 [(3, .int (nI n)), (2, .ref (am 0)), (1, .ref (ad 0)), (0, .ref bs)] []) : wx κ (gGL D ad am cy b) A 4 (mrg σ μ) 203 [(3, .int (nI n)), (2, .ref (am 0)), (1, .ref (ad 0)), (0, .ref bs)] [] := by
  obtain ⟨r, σ', μ', f1, f2, I'⟩ := p_make hI (xs (n + 1)) (xs (n + 2)) (xs (n + 3))
  have KK := K σ' μ' I'
  refine x_aln C 2 rfl dL_law_203 rfl ?_
  refine x_aln C 3 rfl dL_law_204 rfl ?_
  refine x_iln C 0 rfl dL_law_205 rfl ?_
  refine x_ic (v := 1) C (by decide) dL_law_206 rfl ?_
  refine x_iadd C dL_law_207 rfl ?_
  refine z_sld C hX hbl hbA (n := n + 1) (nI_add n 1) (by omega) (by omega) dL_law_208 rfl ?_
  refine x_aln C 3 rfl dL_law_209 rfl ?_
  refine x_iln C 0 rfl dL_law_210 rfl ?_
  refine x_ic (v := 2) C (by decide) dL_law_211 rfl ?_
  refine x_iadd C dL_law_212 rfl ?_
  refine z_sld C hX hbl hbA (n := n + 2) (nI_add n 2) (by omega) (by omega) dL_law_213 rfl ?_
  refine x_aln C 3 rfl dL_law_214 rfl ?_
  refine x_iln C 0 rfl dL_law_215 rfl ?_
  refine x_ic (v := 3) C (by decide) dL_law_216 rfl ?_
  refine x_iadd C dL_law_217 rfl ?_
  refine z_sld C hX hbl hbA (n := n + 3) (nI_add n 3) (by omega) (by omega) dL_law_218 rfl ?_
  refine z_cX (As := [.int (xs (n + 1)), .int (xs (n + 2)), .int (xs (n + 3))]) (rest := []) C hGL El 3 (c_X6_make hGX f1) (gBv km_L_18 kin_X6_make ksel_X6_make kini_X6 kc_X6_make) rfl rfl rfl ⟨rfl, by decide +kernel, by decide +kernel, by decide +kernel⟩ ⟨Nat.le_of_ble_eq_true rfl, Nat.le_of_ble_eq_true rfl⟩ rfl rfl (Nat.le_of_ble_eq_true rfl) dL_law_219 rfl ?_
  refine x_aln C 1 rfl dL_law_222 rfl ?_
  refine x_aln C 3 rfl dL_law_223 rfl ?_
  refine x_iln C 0 rfl dL_law_224 rfl ?_
  refine x_ic (v := 1) C (by decide) dL_law_225 rfl ?_
  refine x_iadd C dL_law_226 rfl ?_
  refine z_sld C hX hbl hbA (n := n + 1) (nI_add n 1) (by omega) (by omega) dL_law_227 rfl ?_
  refine x_aln C 3 rfl dL_law_228 rfl ?_
  refine x_iln C 0 rfl dL_law_229 rfl ?_
  refine x_ic (v := 2) C (by decide) dL_law_230 rfl ?_
  refine x_iadd C dL_law_231 rfl ?_
  refine z_sld C hX hbl hbA (n := n + 2) (nI_add n 2) (by omega) (by omega) dL_law_232 rfl ?_
  refine x_aln C 3 rfl dL_law_233 rfl ?_
  refine x_iln C 0 rfl dL_law_234 rfl ?_
  refine x_ic (v := 3) C (by decide) dL_law_235 rfl ?_
  refine x_iadd C dL_law_236 rfl ?_
  refine z_sld C hX hbl hbA (n := n + 3) (nI_add n 3) (by omega) (by omega) dL_law_237 rfl ?_
  refine z_cM (As := [.int (xs (n + 1)), .int (xs (n + 2)), .int (xs (n + 3))]) (rest := [.int r]) C hGL El 3 (c_X7_make hGM f2) (gBv km_L_22 kin_X7_make ksel_X7_make kini_X7 kc_X7_make) rfl rfl rfl ⟨rfl, by decide +kernel, by decide +kernel, by decide +kernel⟩ ⟨Nat.le_of_ble_eq_true rfl, Nat.le_of_ble_eq_true rfl⟩ rfl rfl (Nat.le_of_ble_eq_true rfl) dL_law_238 rfl ?_
  exact x_ic_eq (tgt := 1269) C dL_law_241 (by decide) rfl (fun _ => KK) (fun hc => absurd rfl hc)
theorem law_path {κ : gK} {l : Launch} {D : va_G} {ad am : Nat → Nat} {cy : Nat → ClassId} {b bs L : Nat} {xs : Nat → Int32} {A : Nat → Prop} {σ μ : gMem} {n : Nat} (C : gC κ cL_law RL gLw 4 (gGL D ad am cy b) A room_1) (El : κ.2.1 = l) (hX : va_X bs L xs (gks κ) (gks κ).heap) (hbl : bs < (gks κ).heap.size) (hbA : ¬ A bs) (hGX : gInj (gGX D ad cy b)) (hGM : gInj (gGM D am cy b)) (hGL : gInj (gGL D ad am cy b)) (hL : L ≤ 384) (hn : n + 6 ≤ L) (hI : INV σ μ) (K : ∀ σ' μ', INV σ' μ' → wx κ (gGL D ad am cy b) A 4 (mrg σ' μ') 1269 [(3, .int (nI n)), (2, .ref (am 0)), (1, .ref (ad 0)), (0, .ref bs)] []) : wx κ (gGL D ad am cy b) A 4 (mrg σ μ) 246 [(3, .int (nI n)), (2, .ref (am 0)), (1, .ref (ad 0)), (0, .ref bs)] [] := by
  obtain ⟨r, σ', μ', f1, f2, I'⟩ := p_path hI (xs (n + 1)) (xs (n + 2)) (xs (n + 3))
  have KK := K σ' μ' I'
  refine x_aln C 2 rfl dL_law_246 rfl ?_
  refine x_aln C 3 rfl dL_law_247 rfl ?_
  refine x_iln C 0 rfl dL_law_248 rfl ?_
  refine x_ic (v := 1) C (by decide) dL_law_249 rfl ?_
  refine x_iadd C dL_law_250 rfl ?_
  refine z_sld C hX hbl hbA (n := n + 1) (nI_add n 1) (by omega) (by omega) dL_law_251 rfl ?_
  refine x_aln C 3 rfl dL_law_252 rfl ?_
  refine x_iln C 0 rfl dL_law_253 rfl ?_
  refine x_ic (v := 2) C (by decide) dL_law_254 rfl ?_
  refine x_iadd C dL_law_255 rfl ?_
  refine z_sld C hX hbl hbA (n := n + 2) (nI_add n 2) (by omega) (by omega) dL_law_256 rfl ?_
  refine x_aln C 3 rfl dL_law_257 rfl ?_
  refine x_iln C 0 rfl dL_law_258 rfl ?_
  refine x_ic (v := 3) C (by decide) dL_law_259 rfl ?_
  refine x_iadd C dL_law_260 rfl ?_
  refine z_sld C hX hbl hbA (n := n + 3) (nI_add n 3) (by omega) (by omega) dL_law_261 rfl ?_
  refine z_cX (As := [.int (xs (n + 1)), .int (xs (n + 2)), .int (xs (n + 3))]) (rest := []) C hGL El 3 (c_X6_path hGX f1) (gBv km_L_23 kin_X6_path ksel_X6_path kini_X6 kc_X6_path) rfl rfl rfl ⟨rfl, by decide +kernel, by decide +kernel, by decide +kernel⟩ ⟨Nat.le_of_ble_eq_true rfl, Nat.le_of_ble_eq_true rfl⟩ rfl rfl (Nat.le_of_ble_eq_true rfl) dL_law_262 rfl ?_
  refine x_aln C 1 rfl dL_law_265 rfl ?_
  refine x_aln C 3 rfl dL_law_266 rfl ?_
  refine x_iln C 0 rfl dL_law_267 rfl ?_
  refine x_ic (v := 1) C (by decide) dL_law_268 rfl ?_
  refine x_iadd C dL_law_269 rfl ?_
  refine z_sld C hX hbl hbA (n := n + 1) (nI_add n 1) (by omega) (by omega) dL_law_270 rfl ?_
  refine x_aln C 3 rfl dL_law_271 rfl ?_
  refine x_iln C 0 rfl dL_law_272 rfl ?_
  refine x_ic (v := 2) C (by decide) dL_law_273 rfl ?_
  refine x_iadd C dL_law_274 rfl ?_
  refine z_sld C hX hbl hbA (n := n + 2) (nI_add n 2) (by omega) (by omega) dL_law_275 rfl ?_
  refine x_aln C 3 rfl dL_law_276 rfl ?_
  refine x_iln C 0 rfl dL_law_277 rfl ?_
  refine x_ic (v := 3) C (by decide) dL_law_278 rfl ?_
  refine x_iadd C dL_law_279 rfl ?_
  refine z_sld C hX hbl hbA (n := n + 3) (nI_add n 3) (by omega) (by omega) dL_law_280 rfl ?_
  refine z_cM (As := [.int (xs (n + 1)), .int (xs (n + 2)), .int (xs (n + 3))]) (rest := [.int r]) C hGL El 3 (c_X7_path hGM f2) (gBv km_L_26 kin_X7_path ksel_X7_path kini_X7 kc_X7_path) rfl rfl rfl ⟨rfl, by decide +kernel, by decide +kernel, by decide +kernel⟩ ⟨Nat.le_of_ble_eq_true rfl, Nat.le_of_ble_eq_true rfl⟩ rfl rfl (Nat.le_of_ble_eq_true rfl) dL_law_281 rfl ?_
  exact x_ic_eq (tgt := 1269) C dL_law_284 (by decide) rfl (fun _ => KK) (fun hc => absurd rfl hc)
theorem law_tide {κ : gK} {l : Launch} {D : va_G} {ad am : Nat → Nat} {cy : Nat → ClassId} {b bs L : Nat} {xs : Nat → Int32} {A : Nat → Prop} {σ μ : gMem} {n : Nat} (C : gC κ cL_law RL gLw 4 (gGL D ad am cy b) A room_1) (El : κ.2.1 = l) (hX : va_X bs L xs (gks κ) (gks κ).heap) (hbl : bs < (gks κ).heap.size) (hbA : ¬ A bs) (hGX : gInj (gGX D ad cy b)) (hGM : gInj (gGM D am cy b)) (hGL : gInj (gGL D ad am cy b)) (hL : L ≤ 384) (hn : n + 6 ≤ L) (hI : INV σ μ) (K : ∀ σ' μ', INV σ' μ' → wx κ (gGL D ad am cy b) A 4 (mrg σ' μ') 1269 [(3, .int (nI n)), (2, .ref (am 0)), (1, .ref (ad 0)), (0, .ref bs)] []) : wx κ (gGL D ad am cy b) A 4 (mrg σ μ) 289 [(3, .int (nI n)), (2, .ref (am 0)), (1, .ref (ad 0)), (0, .ref bs)] [] := by
  obtain ⟨r, σ', μ', f1, f2, I'⟩ := p_tide hI (xs (n + 1)) (xs (n + 2))
  have KK := K σ' μ' I'
  refine x_aln C 2 rfl dL_law_289 rfl ?_
  refine x_aln C 3 rfl dL_law_290 rfl ?_
  refine x_iln C 0 rfl dL_law_291 rfl ?_
  refine x_ic (v := 1) C (by decide) dL_law_292 rfl ?_
  refine x_iadd C dL_law_293 rfl ?_
  refine z_sld C hX hbl hbA (n := n + 1) (nI_add n 1) (by omega) (by omega) dL_law_294 rfl ?_
  refine x_aln C 3 rfl dL_law_295 rfl ?_
  refine x_iln C 0 rfl dL_law_296 rfl ?_
  refine x_ic (v := 2) C (by decide) dL_law_297 rfl ?_
  refine x_iadd C dL_law_298 rfl ?_
  refine z_sld C hX hbl hbA (n := n + 2) (nI_add n 2) (by omega) (by omega) dL_law_299 rfl ?_
  refine z_cX (As := [.int (xs (n + 1)), .int (xs (n + 2))]) (rest := []) C hGL El 2 (c_X6_tide hGX f1) (gBv km_L_27 kin_X6_tide ksel_X6_tide kini_X6 kc_X6_tide) rfl rfl rfl ⟨rfl, by decide +kernel, by decide +kernel, by decide +kernel⟩ ⟨Nat.le_of_ble_eq_true rfl, Nat.le_of_ble_eq_true rfl⟩ rfl rfl (Nat.le_of_ble_eq_true rfl) dL_law_300 rfl ?_
  refine x_aln C 1 rfl dL_law_303 rfl ?_
  refine x_aln C 3 rfl dL_law_304 rfl ?_
  refine x_iln C 0 rfl dL_law_305 rfl ?_
  refine x_ic (v := 1) C (by decide) dL_law_306 rfl ?_
  refine x_iadd C dL_law_307 rfl ?_
  refine z_sld C hX hbl hbA (n := n + 1) (nI_add n 1) (by omega) (by omega) dL_law_308 rfl ?_
  refine x_aln C 3 rfl dL_law_309 rfl ?_
  refine x_iln C 0 rfl dL_law_310 rfl ?_
  refine x_ic (v := 2) C (by decide) dL_law_311 rfl ?_
  refine x_iadd C dL_law_312 rfl ?_
  refine z_sld C hX hbl hbA (n := n + 2) (nI_add n 2) (by omega) (by omega) dL_law_313 rfl ?_
  refine z_cM (As := [.int (xs (n + 1)), .int (xs (n + 2))]) (rest := [.int r]) C hGL El 2 (c_X7_tide hGM f2) (gBv km_L_31 kin_X7_tide ksel_X7_tide kini_X7 kc_X7_tide) rfl rfl rfl ⟨rfl, by decide +kernel, by decide +kernel, by decide +kernel⟩ ⟨Nat.le_of_ble_eq_true rfl, Nat.le_of_ble_eq_true rfl⟩ rfl rfl (Nat.le_of_ble_eq_true rfl) dL_law_314 rfl ?_
  exact x_ic_eq (tgt := 1269) C dL_law_317 (by decide) rfl (fun _ => KK) (fun hc => absurd rfl hc)
theorem law_set {κ : gK} {l : Launch} {D : va_G} {ad am : Nat → Nat} {cy : Nat → ClassId} {b bs L : Nat} {xs : Nat → Int32} {A : Nat → Prop} {σ μ : gMem} {n : Nat} (C : gC κ cL_law RL gLw 4 (gGL D ad am cy b) A room_1) (El : κ.2.1 = l) (hX : va_X bs L xs (gks κ) (gks κ).heap) (hbl : bs < (gks κ).heap.size) (hbA : ¬ A bs) (hGX : gInj (gGX D ad cy b)) (hGM : gInj (gGM D am cy b)) (hGL : gInj (gGL D ad am cy b)) (hL : L ≤ 384) (hn : n + 6 ≤ L) (hI : INV σ μ) (K : ∀ σ' μ', INV σ' μ' → wx κ (gGL D ad am cy b) A 4 (mrg σ' μ') 1269 [(3, .int (nI n)), (2, .ref (am 0)), (1, .ref (ad 0)), (0, .ref bs)] []) : wx κ (gGL D ad am cy b) A 4 (mrg σ μ) 322 [(3, .int (nI n)), (2, .ref (am 0)), (1, .ref (ad 0)), (0, .ref bs)] [] := by
  obtain ⟨r, σ', μ', f1, f2, I'⟩ := p_set hI (xs (n + 1)) (xs (n + 2))
  have KK := K σ' μ' I'
  refine x_aln C 2 rfl dL_law_322 rfl ?_
  refine x_aln C 3 rfl dL_law_323 rfl ?_
  refine x_iln C 0 rfl dL_law_324 rfl ?_
  refine x_ic (v := 1) C (by decide) dL_law_325 rfl ?_
  refine x_iadd C dL_law_326 rfl ?_
  refine z_sld C hX hbl hbA (n := n + 1) (nI_add n 1) (by omega) (by omega) dL_law_327 rfl ?_
  refine x_aln C 3 rfl dL_law_328 rfl ?_
  refine x_iln C 0 rfl dL_law_329 rfl ?_
  refine x_ic (v := 2) C (by decide) dL_law_330 rfl ?_
  refine x_iadd C dL_law_331 rfl ?_
  refine z_sld C hX hbl hbA (n := n + 2) (nI_add n 2) (by omega) (by omega) dL_law_332 rfl ?_
  refine z_cX (As := [.int (xs (n + 1)), .int (xs (n + 2))]) (rest := []) C hGL El 2 (c_X6_set hGX f1) (gBv km_L_32 kin_X6_set ksel_X6_set kini_X6 kc_X6_set) rfl rfl rfl ⟨rfl, by decide +kernel, by decide +kernel, by decide +kernel⟩ ⟨Nat.le_of_ble_eq_true rfl, Nat.le_of_ble_eq_true rfl⟩ rfl rfl (Nat.le_of_ble_eq_true rfl) dL_law_333 rfl ?_
  refine x_aln C 1 rfl dL_law_336 rfl ?_
  refine x_aln C 3 rfl dL_law_337 rfl ?_
  refine x_iln C 0 rfl dL_law_338 rfl ?_
  refine x_ic (v := 1) C (by decide) dL_law_339 rfl ?_
  refine x_iadd C dL_law_340 rfl ?_
  refine z_sld C hX hbl hbA (n := n + 1) (nI_add n 1) (by omega) (by omega) dL_law_341 rfl ?_
  refine x_aln C 3 rfl dL_law_342 rfl ?_
  refine x_iln C 0 rfl dL_law_343 rfl ?_
  refine x_ic (v := 2) C (by decide) dL_law_344 rfl ?_
  refine x_iadd C dL_law_345 rfl ?_
  refine z_sld C hX hbl hbA (n := n + 2) (nI_add n 2) (by omega) (by omega) dL_law_346 rfl ?_
  refine z_cM (As := [.int (xs (n + 1)), .int (xs (n + 2))]) (rest := [.int r]) C hGL El 2 (c_X7_set hGM f2) (gBv km_L_35 kin_X7_set ksel_X7_set kini_X7 kc_X7_set) rfl rfl rfl ⟨rfl, by decide +kernel, by decide +kernel, by decide +kernel⟩ ⟨Nat.le_of_ble_eq_true rfl, Nat.le_of_ble_eq_true rfl⟩ rfl rfl (Nat.le_of_ble_eq_true rfl) dL_law_347 rfl ?_
  exact x_ic_eq (tgt := 1269) C dL_law_350 (by decide) rfl (fun _ => KK) (fun hc => absurd rfl hc)
theorem law_person {κ : gK} {l : Launch} {D : va_G} {ad am : Nat → Nat} {cy : Nat → ClassId} {b bs L : Nat} {xs : Nat → Int32} {A : Nat → Prop} {σ μ : gMem} {n : Nat} (C : gC κ cL_law RL gLw 4 (gGL D ad am cy b) A room_1) (El : κ.2.1 = l) (hX : va_X bs L xs (gks κ) (gks κ).heap) (hbl : bs < (gks κ).heap.size) (hbA : ¬ A bs) (hGX : gInj (gGX D ad cy b)) (hGM : gInj (gGM D am cy b)) (hGL : gInj (gGL D ad am cy b)) (hL : L ≤ 384) (hn : n + 6 ≤ L) (hI : INV σ μ) (K : ∀ σ' μ', INV σ' μ' → wx κ (gGL D ad am cy b) A 4 (mrg σ' μ') 1269 [(3, .int (nI n)), (2, .ref (am 0)), (1, .ref (ad 0)), (0, .ref bs)] []) : wx κ (gGL D ad am cy b) A 4 (mrg σ μ) 355 [(3, .int (nI n)), (2, .ref (am 0)), (1, .ref (ad 0)), (0, .ref bs)] [] := by
  obtain ⟨r, σ', μ', f1, f2, I'⟩ := p_person hI (xs (n + 1)) (xs (n + 2)) (xs (n + 3))
  have KK := K σ' μ' I'
  refine x_aln C 2 rfl dL_law_355 rfl ?_
  refine x_aln C 3 rfl dL_law_356 rfl ?_
  refine x_iln C 0 rfl dL_law_357 rfl ?_
  refine x_ic (v := 1) C (by decide) dL_law_358 rfl ?_
  refine x_iadd C dL_law_359 rfl ?_
  refine z_sld C hX hbl hbA (n := n + 1) (nI_add n 1) (by omega) (by omega) dL_law_360 rfl ?_
  refine x_aln C 3 rfl dL_law_361 rfl ?_
  refine x_iln C 0 rfl dL_law_362 rfl ?_
  refine x_ic (v := 2) C (by decide) dL_law_363 rfl ?_
  refine x_iadd C dL_law_364 rfl ?_
  refine z_sld C hX hbl hbA (n := n + 2) (nI_add n 2) (by omega) (by omega) dL_law_365 rfl ?_
  refine x_aln C 3 rfl dL_law_366 rfl ?_
  refine x_iln C 0 rfl dL_law_367 rfl ?_
  refine x_ic (v := 3) C (by decide) dL_law_368 rfl ?_
  refine x_iadd C dL_law_369 rfl ?_
  refine z_sld C hX hbl hbA (n := n + 3) (nI_add n 3) (by omega) (by omega) dL_law_370 rfl ?_
  refine z_cX (As := [.int (xs (n + 1)), .int (xs (n + 2)), .int (xs (n + 3))]) (rest := []) C hGL El 3 (c_X6_person hGX f1) (gBv km_L_36 kin_X6_person ksel_X6_person kini_X6 kc_X6_person) rfl rfl rfl ⟨rfl, by decide +kernel, by decide +kernel, by decide +kernel⟩ ⟨Nat.le_of_ble_eq_true rfl, Nat.le_of_ble_eq_true rfl⟩ rfl rfl (Nat.le_of_ble_eq_true rfl) dL_law_371 rfl ?_
  refine x_aln C 1 rfl dL_law_374 rfl ?_
  refine x_aln C 3 rfl dL_law_375 rfl ?_
  refine x_iln C 0 rfl dL_law_376 rfl ?_
  refine x_ic (v := 1) C (by decide) dL_law_377 rfl ?_
  refine x_iadd C dL_law_378 rfl ?_
  refine z_sld C hX hbl hbA (n := n + 1) (nI_add n 1) (by omega) (by omega) dL_law_379 rfl ?_
  refine x_aln C 3 rfl dL_law_380 rfl ?_
  refine x_iln C 0 rfl dL_law_381 rfl ?_
  refine x_ic (v := 2) C (by decide) dL_law_382 rfl ?_
  refine x_iadd C dL_law_383 rfl ?_
  refine z_sld C hX hbl hbA (n := n + 2) (nI_add n 2) (by omega) (by omega) dL_law_384 rfl ?_
  refine x_aln C 3 rfl dL_law_385 rfl ?_
  refine x_iln C 0 rfl dL_law_386 rfl ?_
  refine x_ic (v := 3) C (by decide) dL_law_387 rfl ?_
  refine x_iadd C dL_law_388 rfl ?_
  refine z_sld C hX hbl hbA (n := n + 3) (nI_add n 3) (by omega) (by omega) dL_law_389 rfl ?_
  refine z_cM (As := [.int (xs (n + 1)), .int (xs (n + 2)), .int (xs (n + 3))]) (rest := [.int r]) C hGL El 3 (c_X7_person hGM f2) (gBv km_L_39 kin_X7_person ksel_X7_person kini_X7 kc_X7_person) rfl rfl rfl ⟨rfl, by decide +kernel, by decide +kernel, by decide +kernel⟩ ⟨Nat.le_of_ble_eq_true rfl, Nat.le_of_ble_eq_true rfl⟩ rfl rfl (Nat.le_of_ble_eq_true rfl) dL_law_390 rfl ?_
  exact x_ic_eq (tgt := 1269) C dL_law_393 (by decide) rfl (fun _ => KK) (fun hc => absurd rfl hc)
theorem law_of {κ : gK} {l : Launch} {D : va_G} {ad am : Nat → Nat} {cy : Nat → ClassId} {b bs L : Nat} {xs : Nat → Int32} {A : Nat → Prop} {σ μ : gMem} {n : Nat} (C : gC κ cL_law RL gLw 4 (gGL D ad am cy b) A room_1) (El : κ.2.1 = l) (hX : va_X bs L xs (gks κ) (gks κ).heap) (hbl : bs < (gks κ).heap.size) (hbA : ¬ A bs) (hGX : gInj (gGX D ad cy b)) (hGM : gInj (gGM D am cy b)) (hGL : gInj (gGL D ad am cy b)) (hL : L ≤ 384) (hn : n + 6 ≤ L) (hI : INV σ μ) (K : ∀ σ' μ', INV σ' μ' → wx κ (gGL D ad am cy b) A 4 (mrg σ' μ') 1269 [(3, .int (nI n)), (2, .ref (am 0)), (1, .ref (ad 0)), (0, .ref bs)] []) : wx κ (gGL D ad am cy b) A 4 (mrg σ μ) 398 [(3, .int (nI n)), (2, .ref (am 0)), (1, .ref (ad 0)), (0, .ref bs)] [] := by
  obtain ⟨r, f1, f2⟩ := p_of hI (xs (n + 1)) (xs (n + 2))
  have KK := K σ μ hI
  refine x_aln C 2 rfl dL_law_398 rfl ?_
  refine x_aln C 3 rfl dL_law_399 rfl ?_
  refine x_iln C 0 rfl dL_law_400 rfl ?_
  refine x_ic (v := 1) C (by decide) dL_law_401 rfl ?_
  refine x_iadd C dL_law_402 rfl ?_
  refine z_sld C hX hbl hbA (n := n + 1) (nI_add n 1) (by omega) (by omega) dL_law_403 rfl ?_
  refine x_aln C 3 rfl dL_law_404 rfl ?_
  refine x_iln C 0 rfl dL_law_405 rfl ?_
  refine x_ic (v := 2) C (by decide) dL_law_406 rfl ?_
  refine x_iadd C dL_law_407 rfl ?_
  refine z_sld C hX hbl hbA (n := n + 2) (nI_add n 2) (by omega) (by omega) dL_law_408 rfl ?_
  refine z_cX (As := [.int (xs (n + 1)), .int (xs (n + 2))]) (rest := []) C hGL El 2 (c_X6_of hGX f1) (gBv km_L_40 kin_X6_of ksel_X6_of kini_X6 kc_X6_of) rfl rfl rfl ⟨rfl, by decide +kernel, by decide +kernel, by decide +kernel⟩ ⟨Nat.le_of_ble_eq_true rfl, Nat.le_of_ble_eq_true rfl⟩ rfl rfl (Nat.le_of_ble_eq_true rfl) dL_law_409 rfl ?_
  refine x_aln C 1 rfl dL_law_412 rfl ?_
  refine x_aln C 3 rfl dL_law_413 rfl ?_
  refine x_iln C 0 rfl dL_law_414 rfl ?_
  refine x_ic (v := 1) C (by decide) dL_law_415 rfl ?_
  refine x_iadd C dL_law_416 rfl ?_
  refine z_sld C hX hbl hbA (n := n + 1) (nI_add n 1) (by omega) (by omega) dL_law_417 rfl ?_
  refine x_aln C 3 rfl dL_law_418 rfl ?_
  refine x_iln C 0 rfl dL_law_419 rfl ?_
  refine x_ic (v := 2) C (by decide) dL_law_420 rfl ?_
  refine x_iadd C dL_law_421 rfl ?_
  refine z_sld C hX hbl hbA (n := n + 2) (nI_add n 2) (by omega) (by omega) dL_law_422 rfl ?_
  refine z_cM (As := [.int (xs (n + 1)), .int (xs (n + 2))]) (rest := [.int r]) C hGL El 2 (c_X7_of hGM f2) (gBv km_L_43 kin_X7_of ksel_X7_of kini_X7 kc_X7_of) rfl rfl rfl ⟨rfl, by decide +kernel, by decide +kernel, by decide +kernel⟩ ⟨Nat.le_of_ble_eq_true rfl, Nat.le_of_ble_eq_true rfl⟩ rfl rfl (Nat.le_of_ble_eq_true rfl) dL_law_423 rfl ?_
  exact x_ic_eq (tgt := 1269) C dL_law_426 (by decide) rfl (fun _ => KK) (fun hc => absurd rfl hc)
theorem law_type {κ : gK} {l : Launch} {D : va_G} {ad am : Nat → Nat} {cy : Nat → ClassId} {b bs L : Nat} {xs : Nat → Int32} {A : Nat → Prop} {σ μ : gMem} {n : Nat} (C : gC κ cL_law RL gLw 4 (gGL D ad am cy b) A room_1) (El : κ.2.1 = l) (hX : va_X bs L xs (gks κ) (gks κ).heap) (hbl : bs < (gks κ).heap.size) (hbA : ¬ A bs) (hGX : gInj (gGX D ad cy b)) (hGM : gInj (gGM D am cy b)) (hGL : gInj (gGL D ad am cy b)) (hL : L ≤ 384) (hn : n + 6 ≤ L) (hI : INV σ μ) (K : ∀ σ' μ', INV σ' μ' → wx κ (gGL D ad am cy b) A 4 (mrg σ' μ') 1269 [(3, .int (nI n)), (2, .ref (am 0)), (1, .ref (ad 0)), (0, .ref bs)] []) : wx κ (gGL D ad am cy b) A 4 (mrg σ μ) 431 [(3, .int (nI n)), (2, .ref (am 0)), (1, .ref (ad 0)), (0, .ref bs)] [] := by
  obtain ⟨r, σ', μ', f1, f2, I'⟩ := p_type hI (((((xs (n + 1)).toInt64) <<< ((32 : Int32).toInt64 &&& 63)) ||| (((xs (n + 2)).toInt64) &&& 4294967295))) (xs (n + 3))
  have KK := K σ' μ' I'
  refine x_aln C 2 rfl dL_law_431 rfl ?_
  refine x_aln C 3 rfl dL_law_432 rfl ?_
  refine x_iln C 0 rfl dL_law_433 rfl ?_
  refine x_ic (v := 1) C (by decide) dL_law_434 rfl ?_
  refine x_iadd C dL_law_435 rfl ?_
  refine z_sld C hX hbl hbA (n := n + 1) (nI_add n 1) (by omega) (by omega) dL_law_436 rfl ?_
  refine x_i2l C dL_law_437 rfl ?_
  refine x_bi (v := 32) C (by decide) dL_law_438 rfl ?_
  refine x_lshl C dL_law_440 rfl ?_
  refine x_aln C 3 rfl dL_law_441 rfl ?_
  refine x_iln C 0 rfl dL_law_442 rfl ?_
  refine x_ic (v := 2) C (by decide) dL_law_443 rfl ?_
  refine x_iadd C dL_law_444 rfl ?_
  refine z_sld C hX hbl hbA (n := n + 2) (nI_add n 2) (by omega) (by omega) dL_law_445 rfl ?_
  refine x_i2l C dL_law_446 rfl ?_
  refine x_ldc2 (v := 4294967295) C (gBc kk_L_44) dL_law_447 rfl ?_
  refine x_land C dL_law_450 rfl ?_
  refine x_lor C dL_law_451 rfl ?_
  refine x_aln C 3 rfl dL_law_452 rfl ?_
  refine x_iln C 0 rfl dL_law_453 rfl ?_
  refine x_ic (v := 3) C (by decide) dL_law_454 rfl ?_
  refine x_iadd C dL_law_455 rfl ?_
  refine z_sld C hX hbl hbA (n := n + 3) (nI_add n 3) (by omega) (by omega) dL_law_456 rfl ?_
  refine z_cX (As := [.long (((((xs (n + 1)).toInt64) <<< ((32 : Int32).toInt64 &&& 63)) ||| (((xs (n + 2)).toInt64) &&& 4294967295))), .int (xs (n + 3))]) (rest := []) C hGL El 2 (c_X6_type hGX f1) (gBv km_L_46 kin_X6_type ksel_X6_type kini_X6 kc_X6_type) rfl rfl rfl ⟨rfl, by decide +kernel, by decide +kernel, by decide +kernel⟩ ⟨Nat.le_of_ble_eq_true rfl, Nat.le_of_ble_eq_true rfl⟩ rfl rfl (Nat.le_of_ble_eq_true rfl) dL_law_457 rfl ?_
  refine x_aln C 1 rfl dL_law_460 rfl ?_
  refine x_aln C 3 rfl dL_law_461 rfl ?_
  refine x_iln C 0 rfl dL_law_462 rfl ?_
  refine x_ic (v := 1) C (by decide) dL_law_463 rfl ?_
  refine x_iadd C dL_law_464 rfl ?_
  refine z_sld C hX hbl hbA (n := n + 1) (nI_add n 1) (by omega) (by omega) dL_law_465 rfl ?_
  refine x_i2l C dL_law_466 rfl ?_
  refine x_bi (v := 32) C (by decide) dL_law_467 rfl ?_
  refine x_lshl C dL_law_469 rfl ?_
  refine x_aln C 3 rfl dL_law_470 rfl ?_
  refine x_iln C 0 rfl dL_law_471 rfl ?_
  refine x_ic (v := 2) C (by decide) dL_law_472 rfl ?_
  refine x_iadd C dL_law_473 rfl ?_
  refine z_sld C hX hbl hbA (n := n + 2) (nI_add n 2) (by omega) (by omega) dL_law_474 rfl ?_
  refine x_i2l C dL_law_475 rfl ?_
  refine x_ldc2 (v := 4294967295) C (gBc kk_L_44) dL_law_476 rfl ?_
  refine x_land C dL_law_479 rfl ?_
  refine x_lor C dL_law_480 rfl ?_
  refine x_aln C 3 rfl dL_law_481 rfl ?_
  refine x_iln C 0 rfl dL_law_482 rfl ?_
  refine x_ic (v := 3) C (by decide) dL_law_483 rfl ?_
  refine x_iadd C dL_law_484 rfl ?_
  refine z_sld C hX hbl hbA (n := n + 3) (nI_add n 3) (by omega) (by omega) dL_law_485 rfl ?_
  refine z_cM (As := [.long (((((xs (n + 1)).toInt64) <<< ((32 : Int32).toInt64 &&& 63)) ||| (((xs (n + 2)).toInt64) &&& 4294967295))), .int (xs (n + 3))]) (rest := [.int r]) C hGL El 2 (c_X7_type hGM f2) (gBv km_L_50 kin_X7_type ksel_X7_type kini_X7 kc_X7_type) rfl rfl rfl ⟨rfl, by decide +kernel, by decide +kernel, by decide +kernel⟩ ⟨Nat.le_of_ble_eq_true rfl, Nat.le_of_ble_eq_true rfl⟩ rfl rfl (Nat.le_of_ble_eq_true rfl) dL_law_486 rfl ?_
  exact x_ic_eq (tgt := 1269) C dL_law_489 (by decide) rfl (fun _ => KK) (fun hc => absurd rfl hc)
theorem law_lagoon {κ : gK} {l : Launch} {D : va_G} {ad am : Nat → Nat} {cy : Nat → ClassId} {b bs L : Nat} {xs : Nat → Int32} {A : Nat → Prop} {σ μ : gMem} {n : Nat} (C : gC κ cL_law RL gLw 4 (gGL D ad am cy b) A room_1) (El : κ.2.1 = l) (hX : va_X bs L xs (gks κ) (gks κ).heap) (hbl : bs < (gks κ).heap.size) (hbA : ¬ A bs) (hGX : gInj (gGX D ad cy b)) (hGM : gInj (gGM D am cy b)) (hGL : gInj (gGL D ad am cy b)) (hL : L ≤ 384) (hn : n + 6 ≤ L) (hI : INV σ μ) (K : ∀ σ' μ', INV σ' μ' → wx κ (gGL D ad am cy b) A 4 (mrg σ' μ') 1269 [(3, .int (nI n)), (2, .ref (am 0)), (1, .ref (ad 0)), (0, .ref bs)] []) : wx κ (gGL D ad am cy b) A 4 (mrg σ μ) 494 [(3, .int (nI n)), (2, .ref (am 0)), (1, .ref (ad 0)), (0, .ref bs)] [] := by
  obtain ⟨r, σ', μ', f1, f2, I'⟩ := p_lagoon hI 
  have KK := K σ' μ' I'
  refine x_aln C 2 rfl dL_law_494 rfl ?_
  refine z_cX (As := []) (rest := []) C hGL El 0 (c_X6_lagoon hGX f1) (gBv km_L_51 kin_X6_lagoon ksel_X6_lagoon kini_X6 kc_X6_lagoon) rfl rfl rfl ⟨rfl, by decide +kernel, by decide +kernel, by decide +kernel⟩ ⟨Nat.le_of_ble_eq_true rfl, Nat.le_of_ble_eq_true rfl⟩ rfl rfl (Nat.le_of_ble_eq_true rfl) dL_law_495 rfl ?_
  refine x_aln C 1 rfl dL_law_498 rfl ?_
  refine z_cM (As := []) (rest := [.int r]) C hGL El 0 (c_X7_lagoon hGM f2) (gBv km_L_55 kin_X7_lagoon ksel_X7_lagoon kini_X7 kc_X7_lagoon) rfl rfl rfl ⟨rfl, by decide +kernel, by decide +kernel, by decide +kernel⟩ ⟨Nat.le_of_ble_eq_true rfl, Nat.le_of_ble_eq_true rfl⟩ rfl rfl (Nat.le_of_ble_eq_true rfl) dL_law_499 rfl ?_
  exact x_ic_eq (tgt := 1269) C dL_law_502 (by decide) rfl (fun _ => KK) (fun hc => absurd rfl hc)
theorem law_paths {κ : gK} {l : Launch} {D : va_G} {ad am : Nat → Nat} {cy : Nat → ClassId} {b bs L : Nat} {xs : Nat → Int32} {A : Nat → Prop} {σ μ : gMem} {n : Nat} (C : gC κ cL_law RL gLw 4 (gGL D ad am cy b) A room_1) (El : κ.2.1 = l) (hX : va_X bs L xs (gks κ) (gks κ).heap) (hbl : bs < (gks κ).heap.size) (hbA : ¬ A bs) (hGX : gInj (gGX D ad cy b)) (hGM : gInj (gGM D am cy b)) (hGL : gInj (gGL D ad am cy b)) (hL : L ≤ 384) (hn : n + 6 ≤ L) (hI : INV σ μ) (K : ∀ σ' μ', INV σ' μ' → wx κ (gGL D ad am cy b) A 4 (mrg σ' μ') 1269 [(3, .int (nI n)), (2, .ref (am 0)), (1, .ref (ad 0)), (0, .ref bs)] []) : wx κ (gGL D ad am cy b) A 4 (mrg σ μ) 507 [(3, .int (nI n)), (2, .ref (am 0)), (1, .ref (ad 0)), (0, .ref bs)] [] := by
  obtain ⟨r, σ', μ', f1, f2, I'⟩ := p_paths hI 
  have KK := K σ' μ' I'
  refine x_aln C 2 rfl dL_law_507 rfl ?_
  refine z_cX (As := []) (rest := []) C hGL El 0 (c_X6_paths hGX f1) (gBv km_L_56 kin_X6_paths ksel_X6_paths kini_X6 kc_X6_paths) rfl rfl rfl ⟨rfl, by decide +kernel, by decide +kernel, by decide +kernel⟩ ⟨Nat.le_of_ble_eq_true rfl, Nat.le_of_ble_eq_true rfl⟩ rfl rfl (Nat.le_of_ble_eq_true rfl) dL_law_508 rfl ?_
  refine x_aln C 1 rfl dL_law_511 rfl ?_
  refine z_cM (As := []) (rest := [.int r]) C hGL El 0 (c_X7_paths hGM f2) (gBv km_L_59 kin_X7_paths ksel_X7_paths kini_X7 kc_X7_paths) rfl rfl rfl ⟨rfl, by decide +kernel, by decide +kernel, by decide +kernel⟩ ⟨Nat.le_of_ble_eq_true rfl, Nat.le_of_ble_eq_true rfl⟩ rfl rfl (Nat.le_of_ble_eq_true rfl) dL_law_512 rfl ?_
  exact x_ic_eq (tgt := 1269) C dL_law_515 (by decide) rfl (fun _ => KK) (fun hc => absurd rfl hc)
theorem law_count {κ : gK} {l : Launch} {D : va_G} {ad am : Nat → Nat} {cy : Nat → ClassId} {b bs L : Nat} {xs : Nat → Int32} {A : Nat → Prop} {σ μ : gMem} {n : Nat} (C : gC κ cL_law RL gLw 4 (gGL D ad am cy b) A room_1) (El : κ.2.1 = l) (hX : va_X bs L xs (gks κ) (gks κ).heap) (hbl : bs < (gks κ).heap.size) (hbA : ¬ A bs) (hGX : gInj (gGX D ad cy b)) (hGM : gInj (gGM D am cy b)) (hGL : gInj (gGL D ad am cy b)) (hL : L ≤ 384) (hn : n + 6 ≤ L) (hI : INV σ μ) (K : ∀ σ' μ', INV σ' μ' → wx κ (gGL D ad am cy b) A 4 (mrg σ' μ') 1269 [(3, .int (nI n)), (2, .ref (am 0)), (1, .ref (ad 0)), (0, .ref bs)] []) : wx κ (gGL D ad am cy b) A 4 (mrg σ μ) 520 [(3, .int (nI n)), (2, .ref (am 0)), (1, .ref (ad 0)), (0, .ref bs)] [] := by
  obtain ⟨r, f1, f2⟩ := p_count hI (xs (n + 1))
  have KK := K σ μ hI
  refine x_aln C 2 rfl dL_law_520 rfl ?_
  refine x_aln C 3 rfl dL_law_521 rfl ?_
  refine x_iln C 0 rfl dL_law_522 rfl ?_
  refine x_ic (v := 1) C (by decide) dL_law_523 rfl ?_
  refine x_iadd C dL_law_524 rfl ?_
  refine z_sld C hX hbl hbA (n := n + 1) (nI_add n 1) (by omega) (by omega) dL_law_525 rfl ?_
  refine z_cX (As := [.int (xs (n + 1))]) (rest := []) C hGL El 1 (c_X6_count hGX f1) (gBv km_L_60 kin_X6_count ksel_X6_count kini_X6 kc_X6_count) rfl rfl rfl ⟨rfl, by decide +kernel, by decide +kernel, by decide +kernel⟩ ⟨Nat.le_of_ble_eq_true rfl, Nat.le_of_ble_eq_true rfl⟩ rfl rfl (Nat.le_of_ble_eq_true rfl) dL_law_526 rfl ?_
  refine x_aln C 1 rfl dL_law_529 rfl ?_
  refine x_aln C 3 rfl dL_law_530 rfl ?_
  refine x_iln C 0 rfl dL_law_531 rfl ?_
  refine x_ic (v := 1) C (by decide) dL_law_532 rfl ?_
  refine x_iadd C dL_law_533 rfl ?_
  refine z_sld C hX hbl hbA (n := n + 1) (nI_add n 1) (by omega) (by omega) dL_law_534 rfl ?_
  refine z_cM (As := [.int (xs (n + 1))]) (rest := [.int r]) C hGL El 1 (c_X7_count hGM f2) (gBv km_L_63 kin_X7_count ksel_X7_count kini_X7 kc_X7_count) rfl rfl rfl ⟨rfl, by decide +kernel, by decide +kernel, by decide +kernel⟩ ⟨Nat.le_of_ble_eq_true rfl, Nat.le_of_ble_eq_true rfl⟩ rfl rfl (Nat.le_of_ble_eq_true rfl) dL_law_535 rfl ?_
  exact x_ic_eq (tgt := 1269) C dL_law_538 (by decide) rfl (fun _ => KK) (fun hc => absurd rfl hc)
theorem law_water {κ : gK} {l : Launch} {D : va_G} {ad am : Nat → Nat} {cy : Nat → ClassId} {b bs L : Nat} {xs : Nat → Int32} {A : Nat → Prop} {σ μ : gMem} {n : Nat} (C : gC κ cL_law RL gLw 4 (gGL D ad am cy b) A room_1) (El : κ.2.1 = l) (hX : va_X bs L xs (gks κ) (gks κ).heap) (hbl : bs < (gks κ).heap.size) (hbA : ¬ A bs) (hGX : gInj (gGX D ad cy b)) (hGM : gInj (gGM D am cy b)) (hGL : gInj (gGL D ad am cy b)) (hL : L ≤ 384) (hn : n + 6 ≤ L) (hI : INV σ μ) (K : ∀ σ' μ', INV σ' μ' → wx κ (gGL D ad am cy b) A 4 (mrg σ' μ') 1269 [(3, .int (nI n)), (2, .ref (am 0)), (1, .ref (ad 0)), (0, .ref bs)] []) : wx κ (gGL D ad am cy b) A 4 (mrg σ μ) 543 [(3, .int (nI n)), (2, .ref (am 0)), (1, .ref (ad 0)), (0, .ref bs)] [] := by
  obtain ⟨r, f1, f2⟩ := p_water hI (xs (n + 1)) (xs (n + 2))
  have KK := K σ μ hI
  refine x_aln C 2 rfl dL_law_543 rfl ?_
  refine x_aln C 3 rfl dL_law_544 rfl ?_
  refine x_iln C 0 rfl dL_law_545 rfl ?_
  refine x_ic (v := 1) C (by decide) dL_law_546 rfl ?_
  refine x_iadd C dL_law_547 rfl ?_
  refine z_sld C hX hbl hbA (n := n + 1) (nI_add n 1) (by omega) (by omega) dL_law_548 rfl ?_
  refine x_aln C 3 rfl dL_law_549 rfl ?_
  refine x_iln C 0 rfl dL_law_550 rfl ?_
  refine x_ic (v := 2) C (by decide) dL_law_551 rfl ?_
  refine x_iadd C dL_law_552 rfl ?_
  refine z_sld C hX hbl hbA (n := n + 2) (nI_add n 2) (by omega) (by omega) dL_law_553 rfl ?_
  refine z_cX (As := [.int (xs (n + 1)), .int (xs (n + 2))]) (rest := []) C hGL El 2 (c_X6_water hGX f1) (gBv km_L_64 kin_X6_water ksel_X6_water kini_X6 kc_X6_water) rfl rfl rfl ⟨rfl, by decide +kernel, by decide +kernel, by decide +kernel⟩ ⟨Nat.le_of_ble_eq_true rfl, Nat.le_of_ble_eq_true rfl⟩ rfl rfl (Nat.le_of_ble_eq_true rfl) dL_law_554 rfl ?_
  refine x_aln C 1 rfl dL_law_557 rfl ?_
  refine x_aln C 3 rfl dL_law_558 rfl ?_
  refine x_iln C 0 rfl dL_law_559 rfl ?_
  refine x_ic (v := 1) C (by decide) dL_law_560 rfl ?_
  refine x_iadd C dL_law_561 rfl ?_
  refine z_sld C hX hbl hbA (n := n + 1) (nI_add n 1) (by omega) (by omega) dL_law_562 rfl ?_
  refine x_aln C 3 rfl dL_law_563 rfl ?_
  refine x_iln C 0 rfl dL_law_564 rfl ?_
  refine x_ic (v := 2) C (by decide) dL_law_565 rfl ?_
  refine x_iadd C dL_law_566 rfl ?_
  refine z_sld C hX hbl hbA (n := n + 2) (nI_add n 2) (by omega) (by omega) dL_law_567 rfl ?_
  refine z_cM (As := [.int (xs (n + 1)), .int (xs (n + 2))]) (rest := [.int r]) C hGL El 2 (c_X7_water hGM f2) (gBv km_L_67 kin_X7_water ksel_X7_water kini_X7 kc_X7_water) rfl rfl rfl ⟨rfl, by decide +kernel, by decide +kernel, by decide +kernel⟩ ⟨Nat.le_of_ble_eq_true rfl, Nat.le_of_ble_eq_true rfl⟩ rfl rfl (Nat.le_of_ble_eq_true rfl) dL_law_568 rfl ?_
  exact x_ic_eq (tgt := 1269) C dL_law_571 (by decide) rfl (fun _ => KK) (fun hc => absurd rfl hc)
theorem law_stands {κ : gK} {l : Launch} {D : va_G} {ad am : Nat → Nat} {cy : Nat → ClassId} {b bs L : Nat} {xs : Nat → Int32} {A : Nat → Prop} {σ μ : gMem} {n : Nat} (C : gC κ cL_law RL gLw 4 (gGL D ad am cy b) A room_1) (El : κ.2.1 = l) (hX : va_X bs L xs (gks κ) (gks κ).heap) (hbl : bs < (gks κ).heap.size) (hbA : ¬ A bs) (hGX : gInj (gGX D ad cy b)) (hGM : gInj (gGM D am cy b)) (hGL : gInj (gGL D ad am cy b)) (hL : L ≤ 384) (hn : n + 6 ≤ L) (hI : INV σ μ) (K : ∀ σ' μ', INV σ' μ' → wx κ (gGL D ad am cy b) A 4 (mrg σ' μ') 1269 [(3, .int (nI n)), (2, .ref (am 0)), (1, .ref (ad 0)), (0, .ref bs)] []) : wx κ (gGL D ad am cy b) A 4 (mrg σ μ) 576 [(3, .int (nI n)), (2, .ref (am 0)), (1, .ref (ad 0)), (0, .ref bs)] [] := by
  obtain ⟨r, f1, f2⟩ := p_stands hI (xs (n + 1)) (xs (n + 2)) (xs (n + 3))
  have KK := K σ μ hI
  refine x_aln C 2 rfl dL_law_576 rfl ?_
  refine x_aln C 3 rfl dL_law_577 rfl ?_
  refine x_iln C 0 rfl dL_law_578 rfl ?_
  refine x_ic (v := 1) C (by decide) dL_law_579 rfl ?_
  refine x_iadd C dL_law_580 rfl ?_
  refine z_sld C hX hbl hbA (n := n + 1) (nI_add n 1) (by omega) (by omega) dL_law_581 rfl ?_
  refine x_aln C 3 rfl dL_law_582 rfl ?_
  refine x_iln C 0 rfl dL_law_583 rfl ?_
  refine x_ic (v := 2) C (by decide) dL_law_584 rfl ?_
  refine x_iadd C dL_law_585 rfl ?_
  refine z_sld C hX hbl hbA (n := n + 2) (nI_add n 2) (by omega) (by omega) dL_law_586 rfl ?_
  refine x_aln C 3 rfl dL_law_587 rfl ?_
  refine x_iln C 0 rfl dL_law_588 rfl ?_
  refine x_ic (v := 3) C (by decide) dL_law_589 rfl ?_
  refine x_iadd C dL_law_590 rfl ?_
  refine z_sld C hX hbl hbA (n := n + 3) (nI_add n 3) (by omega) (by omega) dL_law_591 rfl ?_
  refine z_cX (As := [.int (xs (n + 1)), .int (xs (n + 2)), .int (xs (n + 3))]) (rest := []) C hGL El 3 (c_X6_stands hGX f1) (gBv km_L_68 kin_X6_stands ksel_X6_stands kini_X6 kc_X6_stands) rfl rfl rfl ⟨rfl, by decide +kernel, by decide +kernel, by decide +kernel⟩ ⟨Nat.le_of_ble_eq_true rfl, Nat.le_of_ble_eq_true rfl⟩ rfl rfl (Nat.le_of_ble_eq_true rfl) dL_law_592 rfl ?_
  refine x_aln C 1 rfl dL_law_595 rfl ?_
  refine x_aln C 3 rfl dL_law_596 rfl ?_
  refine x_iln C 0 rfl dL_law_597 rfl ?_
  refine x_ic (v := 1) C (by decide) dL_law_598 rfl ?_
  refine x_iadd C dL_law_599 rfl ?_
  refine z_sld C hX hbl hbA (n := n + 1) (nI_add n 1) (by omega) (by omega) dL_law_600 rfl ?_
  refine x_aln C 3 rfl dL_law_601 rfl ?_
  refine x_iln C 0 rfl dL_law_602 rfl ?_
  refine x_ic (v := 2) C (by decide) dL_law_603 rfl ?_
  refine x_iadd C dL_law_604 rfl ?_
  refine z_sld C hX hbl hbA (n := n + 2) (nI_add n 2) (by omega) (by omega) dL_law_605 rfl ?_
  refine x_aln C 3 rfl dL_law_606 rfl ?_
  refine x_iln C 0 rfl dL_law_607 rfl ?_
  refine x_ic (v := 3) C (by decide) dL_law_608 rfl ?_
  refine x_iadd C dL_law_609 rfl ?_
  refine z_sld C hX hbl hbA (n := n + 3) (nI_add n 3) (by omega) (by omega) dL_law_610 rfl ?_
  refine z_cM (As := [.int (xs (n + 1)), .int (xs (n + 2)), .int (xs (n + 3))]) (rest := [.int r]) C hGL El 3 (c_X7_stands hGM f2) (gBv km_L_71 kin_X7_stands ksel_X7_stands kini_X7 kc_X7_stands) rfl rfl rfl ⟨rfl, by decide +kernel, by decide +kernel, by decide +kernel⟩ ⟨Nat.le_of_ble_eq_true rfl, Nat.le_of_ble_eq_true rfl⟩ rfl rfl (Nat.le_of_ble_eq_true rfl) dL_law_611 rfl ?_
  exact x_ic_eq (tgt := 1269) C dL_law_614 (by decide) rfl (fun _ => KK) (fun hc => absurd rfl hc)
theorem law_hours {κ : gK} {l : Launch} {D : va_G} {ad am : Nat → Nat} {cy : Nat → ClassId} {b bs L : Nat} {xs : Nat → Int32} {A : Nat → Prop} {σ μ : gMem} {n : Nat} (C : gC κ cL_law RL gLw 4 (gGL D ad am cy b) A room_1) (El : κ.2.1 = l) (hX : va_X bs L xs (gks κ) (gks κ).heap) (hbl : bs < (gks κ).heap.size) (hbA : ¬ A bs) (hGX : gInj (gGX D ad cy b)) (hGM : gInj (gGM D am cy b)) (hGL : gInj (gGL D ad am cy b)) (hL : L ≤ 384) (hn : n + 6 ≤ L) (hI : INV σ μ) (K : ∀ σ' μ', INV σ' μ' → wx κ (gGL D ad am cy b) A 4 (mrg σ' μ') 1269 [(3, .int (nI n)), (2, .ref (am 0)), (1, .ref (ad 0)), (0, .ref bs)] []) : wx κ (gGL D ad am cy b) A 4 (mrg σ μ) 619 [(3, .int (nI n)), (2, .ref (am 0)), (1, .ref (ad 0)), (0, .ref bs)] [] := by
  obtain ⟨r, f1, f2⟩ := p_hours hI (xs (n + 1)) (xs (n + 2))
  have KK := K σ μ hI
  refine x_aln C 2 rfl dL_law_619 rfl ?_
  refine x_aln C 3 rfl dL_law_620 rfl ?_
  refine x_iln C 0 rfl dL_law_621 rfl ?_
  refine x_ic (v := 1) C (by decide) dL_law_622 rfl ?_
  refine x_iadd C dL_law_623 rfl ?_
  refine z_sld C hX hbl hbA (n := n + 1) (nI_add n 1) (by omega) (by omega) dL_law_624 rfl ?_
  refine x_aln C 3 rfl dL_law_625 rfl ?_
  refine x_iln C 0 rfl dL_law_626 rfl ?_
  refine x_ic (v := 2) C (by decide) dL_law_627 rfl ?_
  refine x_iadd C dL_law_628 rfl ?_
  refine z_sld C hX hbl hbA (n := n + 2) (nI_add n 2) (by omega) (by omega) dL_law_629 rfl ?_
  refine z_cX (As := [.int (xs (n + 1)), .int (xs (n + 2))]) (rest := []) C hGL El 2 (c_X6_hours hGX f1) (gBv km_L_72 kin_X6_hours ksel_X6_hours kini_X6 kc_X6_hours) rfl rfl rfl ⟨rfl, by decide +kernel, by decide +kernel, by decide +kernel⟩ ⟨Nat.le_of_ble_eq_true rfl, Nat.le_of_ble_eq_true rfl⟩ rfl rfl (Nat.le_of_ble_eq_true rfl) dL_law_630 rfl ?_
  refine x_aln C 1 rfl dL_law_633 rfl ?_
  refine x_aln C 3 rfl dL_law_634 rfl ?_
  refine x_iln C 0 rfl dL_law_635 rfl ?_
  refine x_ic (v := 1) C (by decide) dL_law_636 rfl ?_
  refine x_iadd C dL_law_637 rfl ?_
  refine z_sld C hX hbl hbA (n := n + 1) (nI_add n 1) (by omega) (by omega) dL_law_638 rfl ?_
  refine x_aln C 3 rfl dL_law_639 rfl ?_
  refine x_iln C 0 rfl dL_law_640 rfl ?_
  refine x_ic (v := 2) C (by decide) dL_law_641 rfl ?_
  refine x_iadd C dL_law_642 rfl ?_
  refine z_sld C hX hbl hbA (n := n + 2) (nI_add n 2) (by omega) (by omega) dL_law_643 rfl ?_
  refine z_cM (As := [.int (xs (n + 1)), .int (xs (n + 2))]) (rest := [.int r]) C hGL El 2 (c_X7_hours hGM f2) (gBv km_L_75 kin_X7_hours ksel_X7_hours kini_X7 kc_X7_hours) rfl rfl rfl ⟨rfl, by decide +kernel, by decide +kernel, by decide +kernel⟩ ⟨Nat.le_of_ble_eq_true rfl, Nat.le_of_ble_eq_true rfl⟩ rfl rfl (Nat.le_of_ble_eq_true rfl) dL_law_644 rfl ?_
  exact x_ic_eq (tgt := 1269) C dL_law_647 (by decide) rfl (fun _ => KK) (fun hc => absurd rfl hc)
theorem law_years {κ : gK} {l : Launch} {D : va_G} {ad am : Nat → Nat} {cy : Nat → ClassId} {b bs L : Nat} {xs : Nat → Int32} {A : Nat → Prop} {σ μ : gMem} {n : Nat} (C : gC κ cL_law RL gLw 4 (gGL D ad am cy b) A room_1) (El : κ.2.1 = l) (hX : va_X bs L xs (gks κ) (gks κ).heap) (hbl : bs < (gks κ).heap.size) (hbA : ¬ A bs) (hGX : gInj (gGX D ad cy b)) (hGM : gInj (gGM D am cy b)) (hGL : gInj (gGL D ad am cy b)) (hL : L ≤ 384) (hn : n + 6 ≤ L) (hI : INV σ μ) (K : ∀ σ' μ', INV σ' μ' → wx κ (gGL D ad am cy b) A 4 (mrg σ' μ') 1269 [(3, .int (nI n)), (2, .ref (am 0)), (1, .ref (ad 0)), (0, .ref bs)] []) : wx κ (gGL D ad am cy b) A 4 (mrg σ μ) 652 [(3, .int (nI n)), (2, .ref (am 0)), (1, .ref (ad 0)), (0, .ref bs)] [] := by
  obtain ⟨r, σ', μ', f1, f2, I'⟩ := p_years hI (xs (n + 1))
  have KK := K σ' μ' I'
  refine x_aln C 2 rfl dL_law_652 rfl ?_
  refine x_aln C 3 rfl dL_law_653 rfl ?_
  refine x_iln C 0 rfl dL_law_654 rfl ?_
  refine x_ic (v := 1) C (by decide) dL_law_655 rfl ?_
  refine x_iadd C dL_law_656 rfl ?_
  refine z_sld C hX hbl hbA (n := n + 1) (nI_add n 1) (by omega) (by omega) dL_law_657 rfl ?_
  refine z_cX (As := [.int (xs (n + 1))]) (rest := []) C hGL El 1 (c_X6_years hGX f1) (gBv km_L_76 kin_X6_years ksel_X6_years kini_X6 kc_X6_years) rfl rfl rfl ⟨rfl, by decide +kernel, by decide +kernel, by decide +kernel⟩ ⟨Nat.le_of_ble_eq_true rfl, Nat.le_of_ble_eq_true rfl⟩ rfl rfl (Nat.le_of_ble_eq_true rfl) dL_law_658 rfl ?_
  refine x_aln C 1 rfl dL_law_661 rfl ?_
  refine x_aln C 3 rfl dL_law_662 rfl ?_
  refine x_iln C 0 rfl dL_law_663 rfl ?_
  refine x_ic (v := 1) C (by decide) dL_law_664 rfl ?_
  refine x_iadd C dL_law_665 rfl ?_
  refine z_sld C hX hbl hbA (n := n + 1) (nI_add n 1) (by omega) (by omega) dL_law_666 rfl ?_
  refine z_cM (As := [.int (xs (n + 1))]) (rest := [.int r]) C hGL El 1 (c_X7_years hGM f2) (gBv km_L_79 kin_X7_years ksel_X7_years kini_X7 kc_X7_years) rfl rfl rfl ⟨rfl, by decide +kernel, by decide +kernel, by decide +kernel⟩ ⟨Nat.le_of_ble_eq_true rfl, Nat.le_of_ble_eq_true rfl⟩ rfl rfl (Nat.le_of_ble_eq_true rfl) dL_law_667 rfl ?_
  exact x_ic_eq (tgt := 1269) C dL_law_670 (by decide) rfl (fun _ => KK) (fun hc => absurd rfl hc)
theorem law_way {κ : gK} {l : Launch} {D : va_G} {ad am : Nat → Nat} {cy : Nat → ClassId} {b bs L : Nat} {xs : Nat → Int32} {A : Nat → Prop} {σ μ : gMem} {n : Nat} (C : gC κ cL_law RL gLw 4 (gGL D ad am cy b) A room_1) (El : κ.2.1 = l) (hX : va_X bs L xs (gks κ) (gks κ).heap) (hbl : bs < (gks κ).heap.size) (hbA : ¬ A bs) (hGX : gInj (gGX D ad cy b)) (hGM : gInj (gGM D am cy b)) (hGL : gInj (gGL D ad am cy b)) (hL : L ≤ 384) (hn : n + 6 ≤ L) (hI : INV σ μ) (K : ∀ σ' μ', INV σ' μ' → wx κ (gGL D ad am cy b) A 4 (mrg σ' μ') 1269 [(3, .int (nI n)), (2, .ref (am 0)), (1, .ref (ad 0)), (0, .ref bs)] []) : wx κ (gGL D ad am cy b) A 4 (mrg σ μ) 675 [(3, .int (nI n)), (2, .ref (am 0)), (1, .ref (ad 0)), (0, .ref bs)] [] := by
  obtain ⟨r, σ', μ', f1, f2, I'⟩ := p_way hI (xs (n + 1)) (xs (n + 2)) (xs (n + 3)) (xs (n + 4))
  have KK := K σ' μ' I'
  refine x_aln C 2 rfl dL_law_675 rfl ?_
  refine x_aln C 3 rfl dL_law_676 rfl ?_
  refine x_iln C 0 rfl dL_law_677 rfl ?_
  refine x_ic (v := 1) C (by decide) dL_law_678 rfl ?_
  refine x_iadd C dL_law_679 rfl ?_
  refine z_sld C hX hbl hbA (n := n + 1) (nI_add n 1) (by omega) (by omega) dL_law_680 rfl ?_
  refine x_aln C 3 rfl dL_law_681 rfl ?_
  refine x_iln C 0 rfl dL_law_682 rfl ?_
  refine x_ic (v := 2) C (by decide) dL_law_683 rfl ?_
  refine x_iadd C dL_law_684 rfl ?_
  refine z_sld C hX hbl hbA (n := n + 2) (nI_add n 2) (by omega) (by omega) dL_law_685 rfl ?_
  refine x_aln C 3 rfl dL_law_686 rfl ?_
  refine x_iln C 0 rfl dL_law_687 rfl ?_
  refine x_ic (v := 3) C (by decide) dL_law_688 rfl ?_
  refine x_iadd C dL_law_689 rfl ?_
  refine z_sld C hX hbl hbA (n := n + 3) (nI_add n 3) (by omega) (by omega) dL_law_690 rfl ?_
  refine x_aln C 3 rfl dL_law_691 rfl ?_
  refine x_iln C 0 rfl dL_law_692 rfl ?_
  refine x_ic (v := 4) C (by decide) dL_law_693 rfl ?_
  refine x_iadd C dL_law_694 rfl ?_
  refine z_sld C hX hbl hbA (n := n + 4) (nI_add n 4) (by omega) (by omega) dL_law_695 rfl ?_
  refine z_cX (As := [.int (xs (n + 1)), .int (xs (n + 2)), .int (xs (n + 3)), .int (xs (n + 4))]) (rest := []) C hGL El 4 (c_X6_way hGX f1) (gBv km_L_80 kin_X6_way ksel_X6_way kini_X6 kc_X6_way) rfl rfl rfl ⟨rfl, by decide +kernel, by decide +kernel, by decide +kernel⟩ ⟨Nat.le_of_ble_eq_true rfl, Nat.le_of_ble_eq_true rfl⟩ rfl rfl (Nat.le_of_ble_eq_true rfl) dL_law_696 rfl ?_
  refine x_aln C 1 rfl dL_law_699 rfl ?_
  refine x_aln C 3 rfl dL_law_700 rfl ?_
  refine x_iln C 0 rfl dL_law_701 rfl ?_
  refine x_ic (v := 1) C (by decide) dL_law_702 rfl ?_
  refine x_iadd C dL_law_703 rfl ?_
  refine z_sld C hX hbl hbA (n := n + 1) (nI_add n 1) (by omega) (by omega) dL_law_704 rfl ?_
  refine x_aln C 3 rfl dL_law_705 rfl ?_
  refine x_iln C 0 rfl dL_law_706 rfl ?_
  refine x_ic (v := 2) C (by decide) dL_law_707 rfl ?_
  refine x_iadd C dL_law_708 rfl ?_
  refine z_sld C hX hbl hbA (n := n + 2) (nI_add n 2) (by omega) (by omega) dL_law_709 rfl ?_
  refine x_aln C 3 rfl dL_law_710 rfl ?_
  refine x_iln C 0 rfl dL_law_711 rfl ?_
  refine x_ic (v := 3) C (by decide) dL_law_712 rfl ?_
  refine x_iadd C dL_law_713 rfl ?_
  refine z_sld C hX hbl hbA (n := n + 3) (nI_add n 3) (by omega) (by omega) dL_law_714 rfl ?_
  refine x_aln C 3 rfl dL_law_715 rfl ?_
  refine x_iln C 0 rfl dL_law_716 rfl ?_
  refine x_ic (v := 4) C (by decide) dL_law_717 rfl ?_
  refine x_iadd C dL_law_718 rfl ?_
  refine z_sld C hX hbl hbA (n := n + 4) (nI_add n 4) (by omega) (by omega) dL_law_719 rfl ?_
  refine z_cM (As := [.int (xs (n + 1)), .int (xs (n + 2)), .int (xs (n + 3)), .int (xs (n + 4))]) (rest := [.int r]) C hGL El 4 (c_X7_way hGM f2) (gBv km_L_84 kin_X7_way ksel_X7_way kini_X7 kc_X7_way) rfl rfl rfl ⟨rfl, by decide +kernel, by decide +kernel, by decide +kernel⟩ ⟨Nat.le_of_ble_eq_true rfl, Nat.le_of_ble_eq_true rfl⟩ rfl rfl (Nat.le_of_ble_eq_true rfl) dL_law_720 rfl ?_
  exact x_ic_eq (tgt := 1269) C dL_law_723 (by decide) rfl (fun _ => KK) (fun hc => absurd rfl hc)
theorem law_race {κ : gK} {l : Launch} {D : va_G} {ad am : Nat → Nat} {cy : Nat → ClassId} {b bs L : Nat} {xs : Nat → Int32} {A : Nat → Prop} {σ μ : gMem} {n : Nat} (C : gC κ cL_law RL gLw 4 (gGL D ad am cy b) A room_1) (El : κ.2.1 = l) (hX : va_X bs L xs (gks κ) (gks κ).heap) (hbl : bs < (gks κ).heap.size) (hbA : ¬ A bs) (hGX : gInj (gGX D ad cy b)) (hGM : gInj (gGM D am cy b)) (hGL : gInj (gGL D ad am cy b)) (hL : L ≤ 384) (hn : n + 6 ≤ L) (hI : INV σ μ) (K : ∀ σ' μ', INV σ' μ' → wx κ (gGL D ad am cy b) A 4 (mrg σ' μ') 1269 [(3, .int (nI n)), (2, .ref (am 0)), (1, .ref (ad 0)), (0, .ref bs)] []) : wx κ (gGL D ad am cy b) A 4 (mrg σ μ) 728 [(3, .int (nI n)), (2, .ref (am 0)), (1, .ref (ad 0)), (0, .ref bs)] [] := by
  obtain ⟨r, σ', μ', f1, f2, I'⟩ := p_race hI (xs (n + 1)) (xs (n + 2)) (xs (n + 3)) (xs (n + 4))
  have KK := K σ' μ' I'
  refine x_aln C 2 rfl dL_law_728 rfl ?_
  refine x_aln C 3 rfl dL_law_729 rfl ?_
  refine x_iln C 0 rfl dL_law_730 rfl ?_
  refine x_ic (v := 1) C (by decide) dL_law_731 rfl ?_
  refine x_iadd C dL_law_732 rfl ?_
  refine z_sld C hX hbl hbA (n := n + 1) (nI_add n 1) (by omega) (by omega) dL_law_733 rfl ?_
  refine x_aln C 3 rfl dL_law_734 rfl ?_
  refine x_iln C 0 rfl dL_law_735 rfl ?_
  refine x_ic (v := 2) C (by decide) dL_law_736 rfl ?_
  refine x_iadd C dL_law_737 rfl ?_
  refine z_sld C hX hbl hbA (n := n + 2) (nI_add n 2) (by omega) (by omega) dL_law_738 rfl ?_
  refine x_aln C 3 rfl dL_law_739 rfl ?_
  refine x_iln C 0 rfl dL_law_740 rfl ?_
  refine x_ic (v := 3) C (by decide) dL_law_741 rfl ?_
  refine x_iadd C dL_law_742 rfl ?_
  refine z_sld C hX hbl hbA (n := n + 3) (nI_add n 3) (by omega) (by omega) dL_law_743 rfl ?_
  refine x_aln C 3 rfl dL_law_744 rfl ?_
  refine x_iln C 0 rfl dL_law_745 rfl ?_
  refine x_ic (v := 4) C (by decide) dL_law_746 rfl ?_
  refine x_iadd C dL_law_747 rfl ?_
  refine z_sld C hX hbl hbA (n := n + 4) (nI_add n 4) (by omega) (by omega) dL_law_748 rfl ?_
  refine z_cX (As := [.int (xs (n + 1)), .int (xs (n + 2)), .int (xs (n + 3)), .int (xs (n + 4))]) (rest := []) C hGL El 4 (c_X6_race hGX f1) (gBv km_L_85 kin_X6_race ksel_X6_race kini_X6 kc_X6_race) rfl rfl rfl ⟨rfl, by decide +kernel, by decide +kernel, by decide +kernel⟩ ⟨Nat.le_of_ble_eq_true rfl, Nat.le_of_ble_eq_true rfl⟩ rfl rfl (Nat.le_of_ble_eq_true rfl) dL_law_749 rfl ?_
  refine x_aln C 1 rfl dL_law_752 rfl ?_
  refine x_aln C 3 rfl dL_law_753 rfl ?_
  refine x_iln C 0 rfl dL_law_754 rfl ?_
  refine x_ic (v := 1) C (by decide) dL_law_755 rfl ?_
  refine x_iadd C dL_law_756 rfl ?_
  refine z_sld C hX hbl hbA (n := n + 1) (nI_add n 1) (by omega) (by omega) dL_law_757 rfl ?_
  refine x_aln C 3 rfl dL_law_758 rfl ?_
  refine x_iln C 0 rfl dL_law_759 rfl ?_
  refine x_ic (v := 2) C (by decide) dL_law_760 rfl ?_
  refine x_iadd C dL_law_761 rfl ?_
  refine z_sld C hX hbl hbA (n := n + 2) (nI_add n 2) (by omega) (by omega) dL_law_762 rfl ?_
  refine x_aln C 3 rfl dL_law_763 rfl ?_
  refine x_iln C 0 rfl dL_law_764 rfl ?_
  refine x_ic (v := 3) C (by decide) dL_law_765 rfl ?_
  refine x_iadd C dL_law_766 rfl ?_
  refine z_sld C hX hbl hbA (n := n + 3) (nI_add n 3) (by omega) (by omega) dL_law_767 rfl ?_
  refine x_aln C 3 rfl dL_law_768 rfl ?_
  refine x_iln C 0 rfl dL_law_769 rfl ?_
  refine x_ic (v := 4) C (by decide) dL_law_770 rfl ?_
  refine x_iadd C dL_law_771 rfl ?_
  refine z_sld C hX hbl hbA (n := n + 4) (nI_add n 4) (by omega) (by omega) dL_law_772 rfl ?_
  refine z_cM (As := [.int (xs (n + 1)), .int (xs (n + 2)), .int (xs (n + 3)), .int (xs (n + 4))]) (rest := [.int r]) C hGL El 4 (c_X7_race hGM f2) (gBv km_L_88 kin_X7_race ksel_X7_race kini_X7 kc_X7_race) rfl rfl rfl ⟨rfl, by decide +kernel, by decide +kernel, by decide +kernel⟩ ⟨Nat.le_of_ble_eq_true rfl, Nat.le_of_ble_eq_true rfl⟩ rfl rfl (Nat.le_of_ble_eq_true rfl) dL_law_773 rfl ?_
  exact x_ic_eq (tgt := 1269) C dL_law_776 (by decide) rfl (fun _ => KK) (fun hc => absurd rfl hc)
theorem law_need {κ : gK} {l : Launch} {D : va_G} {ad am : Nat → Nat} {cy : Nat → ClassId} {b bs L : Nat} {xs : Nat → Int32} {A : Nat → Prop} {σ μ : gMem} {n : Nat} (C : gC κ cL_law RL gLw 4 (gGL D ad am cy b) A room_1) (El : κ.2.1 = l) (hX : va_X bs L xs (gks κ) (gks κ).heap) (hbl : bs < (gks κ).heap.size) (hbA : ¬ A bs) (hGX : gInj (gGX D ad cy b)) (hGM : gInj (gGM D am cy b)) (hGL : gInj (gGL D ad am cy b)) (hL : L ≤ 384) (hn : n + 6 ≤ L) (hI : INV σ μ) (K : ∀ σ' μ', INV σ' μ' → wx κ (gGL D ad am cy b) A 4 (mrg σ' μ') 1269 [(3, .int (nI n)), (2, .ref (am 0)), (1, .ref (ad 0)), (0, .ref bs)] []) : wx κ (gGL D ad am cy b) A 4 (mrg σ μ) 781 [(3, .int (nI n)), (2, .ref (am 0)), (1, .ref (ad 0)), (0, .ref bs)] [] := by
  obtain ⟨r, σ', μ', f1, f2, I'⟩ := p_need hI (xs (n + 1)) (xs (n + 2)) (xs (n + 3))
  have KK := K σ' μ' I'
  refine x_aln C 2 rfl dL_law_781 rfl ?_
  refine x_aln C 3 rfl dL_law_782 rfl ?_
  refine x_iln C 0 rfl dL_law_783 rfl ?_
  refine x_ic (v := 1) C (by decide) dL_law_784 rfl ?_
  refine x_iadd C dL_law_785 rfl ?_
  refine z_sld C hX hbl hbA (n := n + 1) (nI_add n 1) (by omega) (by omega) dL_law_786 rfl ?_
  refine x_aln C 3 rfl dL_law_787 rfl ?_
  refine x_iln C 0 rfl dL_law_788 rfl ?_
  refine x_ic (v := 2) C (by decide) dL_law_789 rfl ?_
  refine x_iadd C dL_law_790 rfl ?_
  refine z_sld C hX hbl hbA (n := n + 2) (nI_add n 2) (by omega) (by omega) dL_law_791 rfl ?_
  refine x_aln C 3 rfl dL_law_792 rfl ?_
  refine x_iln C 0 rfl dL_law_793 rfl ?_
  refine x_ic (v := 3) C (by decide) dL_law_794 rfl ?_
  refine x_iadd C dL_law_795 rfl ?_
  refine z_sld C hX hbl hbA (n := n + 3) (nI_add n 3) (by omega) (by omega) dL_law_796 rfl ?_
  refine z_cX (As := [.int (xs (n + 1)), .int (xs (n + 2)), .int (xs (n + 3))]) (rest := []) C hGL El 3 (c_X6_need hGX f1) (gBv km_L_89 kin_X6_need ksel_X6_need kini_X6 kc_X6_need) rfl rfl rfl ⟨rfl, by decide +kernel, by decide +kernel, by decide +kernel⟩ ⟨Nat.le_of_ble_eq_true rfl, Nat.le_of_ble_eq_true rfl⟩ rfl rfl (Nat.le_of_ble_eq_true rfl) dL_law_797 rfl ?_
  refine x_aln C 1 rfl dL_law_800 rfl ?_
  refine x_aln C 3 rfl dL_law_801 rfl ?_
  refine x_iln C 0 rfl dL_law_802 rfl ?_
  refine x_ic (v := 1) C (by decide) dL_law_803 rfl ?_
  refine x_iadd C dL_law_804 rfl ?_
  refine z_sld C hX hbl hbA (n := n + 1) (nI_add n 1) (by omega) (by omega) dL_law_805 rfl ?_
  refine x_aln C 3 rfl dL_law_806 rfl ?_
  refine x_iln C 0 rfl dL_law_807 rfl ?_
  refine x_ic (v := 2) C (by decide) dL_law_808 rfl ?_
  refine x_iadd C dL_law_809 rfl ?_
  refine z_sld C hX hbl hbA (n := n + 2) (nI_add n 2) (by omega) (by omega) dL_law_810 rfl ?_
  refine x_aln C 3 rfl dL_law_811 rfl ?_
  refine x_iln C 0 rfl dL_law_812 rfl ?_
  refine x_ic (v := 3) C (by decide) dL_law_813 rfl ?_
  refine x_iadd C dL_law_814 rfl ?_
  refine z_sld C hX hbl hbA (n := n + 3) (nI_add n 3) (by omega) (by omega) dL_law_815 rfl ?_
  refine z_cM (As := [.int (xs (n + 1)), .int (xs (n + 2)), .int (xs (n + 3))]) (rest := [.int r]) C hGL El 3 (c_X7_need hGM f2) (gBv km_L_92 kin_X7_need ksel_X7_need kini_X7 kc_X7_need) rfl rfl rfl ⟨rfl, by decide +kernel, by decide +kernel, by decide +kernel⟩ ⟨Nat.le_of_ble_eq_true rfl, Nat.le_of_ble_eq_true rfl⟩ rfl rfl (Nat.le_of_ble_eq_true rfl) dL_law_816 rfl ?_
  exact x_ic_eq (tgt := 1269) C dL_law_819 (by decide) rfl (fun _ => KK) (fun hc => absurd rfl hc)
theorem law_met {κ : gK} {l : Launch} {D : va_G} {ad am : Nat → Nat} {cy : Nat → ClassId} {b bs L : Nat} {xs : Nat → Int32} {A : Nat → Prop} {σ μ : gMem} {n : Nat} (C : gC κ cL_law RL gLw 4 (gGL D ad am cy b) A room_1) (El : κ.2.1 = l) (hX : va_X bs L xs (gks κ) (gks κ).heap) (hbl : bs < (gks κ).heap.size) (hbA : ¬ A bs) (hGX : gInj (gGX D ad cy b)) (hGM : gInj (gGM D am cy b)) (hGL : gInj (gGL D ad am cy b)) (hL : L ≤ 384) (hn : n + 6 ≤ L) (hI : INV σ μ) (K : ∀ σ' μ', INV σ' μ' → wx κ (gGL D ad am cy b) A 4 (mrg σ' μ') 1269 [(3, .int (nI n)), (2, .ref (am 0)), (1, .ref (ad 0)), (0, .ref bs)] []) : wx κ (gGL D ad am cy b) A 4 (mrg σ μ) 824 [(3, .int (nI n)), (2, .ref (am 0)), (1, .ref (ad 0)), (0, .ref bs)] [] := by
  obtain ⟨r, f1, f2⟩ := p_met hI 
  have KK := K σ μ hI
  refine x_aln C 2 rfl dL_law_824 rfl ?_
  refine z_cX (As := []) (rest := []) C hGL El 0 (c_X6_met hGX f1) (gBv km_L_93 kin_X6_met ksel_X6_met kini_X6 kc_X6_met) rfl rfl rfl ⟨rfl, by decide +kernel, by decide +kernel, by decide +kernel⟩ ⟨Nat.le_of_ble_eq_true rfl, Nat.le_of_ble_eq_true rfl⟩ rfl rfl (Nat.le_of_ble_eq_true rfl) dL_law_825 rfl ?_
  refine x_aln C 1 rfl dL_law_828 rfl ?_
  refine z_cM (As := []) (rest := [.int r]) C hGL El 0 (c_X7_met hGM f2) (gBv km_L_96 kin_X7_met ksel_X7_met kini_X7 kc_X7_met) rfl rfl rfl ⟨rfl, by decide +kernel, by decide +kernel, by decide +kernel⟩ ⟨Nat.le_of_ble_eq_true rfl, Nat.le_of_ble_eq_true rfl⟩ rfl rfl (Nat.le_of_ble_eq_true rfl) dL_law_829 rfl ?_
  exact x_ic_eq (tgt := 1269) C dL_law_832 (by decide) rfl (fun _ => KK) (fun hc => absurd rfl hc)
theorem law_lengths {κ : gK} {l : Launch} {D : va_G} {ad am : Nat → Nat} {cy : Nat → ClassId} {b bs L : Nat} {xs : Nat → Int32} {A : Nat → Prop} {σ μ : gMem} {n : Nat} (C : gC κ cL_law RL gLw 4 (gGL D ad am cy b) A room_1) (El : κ.2.1 = l) (hX : va_X bs L xs (gks κ) (gks κ).heap) (hbl : bs < (gks κ).heap.size) (hbA : ¬ A bs) (hGX : gInj (gGX D ad cy b)) (hGM : gInj (gGM D am cy b)) (hGL : gInj (gGL D ad am cy b)) (hL : L ≤ 384) (hn : n + 6 ≤ L) (hI : INV σ μ) (K : ∀ σ' μ', INV σ' μ' → wx κ (gGL D ad am cy b) A 4 (mrg σ' μ') 1269 [(3, .int (nI n)), (2, .ref (am 0)), (1, .ref (ad 0)), (0, .ref bs)] []) : wx κ (gGL D ad am cy b) A 4 (mrg σ μ) 837 [(3, .int (nI n)), (2, .ref (am 0)), (1, .ref (ad 0)), (0, .ref bs)] [] := by
  obtain ⟨r, σ', μ', f1, f2, I'⟩ := p_lengths hI (xs (n + 1))
  have KK := K σ' μ' I'
  refine x_aln C 2 rfl dL_law_837 rfl ?_
  refine x_aln C 3 rfl dL_law_838 rfl ?_
  refine x_iln C 0 rfl dL_law_839 rfl ?_
  refine x_ic (v := 1) C (by decide) dL_law_840 rfl ?_
  refine x_iadd C dL_law_841 rfl ?_
  refine z_sld C hX hbl hbA (n := n + 1) (nI_add n 1) (by omega) (by omega) dL_law_842 rfl ?_
  refine z_cX (As := [.int (xs (n + 1))]) (rest := []) C hGL El 1 (c_X6_lengths hGX f1) (gBv km_L_97 kin_X6_lengths ksel_X6_lengths kini_X6 kc_X6_lengths) rfl rfl rfl ⟨rfl, by decide +kernel, by decide +kernel, by decide +kernel⟩ ⟨Nat.le_of_ble_eq_true rfl, Nat.le_of_ble_eq_true rfl⟩ rfl rfl (Nat.le_of_ble_eq_true rfl) dL_law_843 rfl ?_
  refine x_aln C 1 rfl dL_law_846 rfl ?_
  refine x_aln C 3 rfl dL_law_847 rfl ?_
  refine x_iln C 0 rfl dL_law_848 rfl ?_
  refine x_ic (v := 1) C (by decide) dL_law_849 rfl ?_
  refine x_iadd C dL_law_850 rfl ?_
  refine z_sld C hX hbl hbA (n := n + 1) (nI_add n 1) (by omega) (by omega) dL_law_851 rfl ?_
  refine z_cM (As := [.int (xs (n + 1))]) (rest := [.int r]) C hGL El 1 (c_X7_lengths hGM f2) (gBv km_L_100 kin_X7_lengths ksel_X7_lengths kini_X7 kc_X7_lengths) rfl rfl rfl ⟨rfl, by decide +kernel, by decide +kernel, by decide +kernel⟩ ⟨Nat.le_of_ble_eq_true rfl, Nat.le_of_ble_eq_true rfl⟩ rfl rfl (Nat.le_of_ble_eq_true rfl) dL_law_852 rfl ?_
  exact x_ic_eq (tgt := 1269) C dL_law_855 (by decide) rfl (fun _ => KK) (fun hc => absurd rfl hc)
theorem law_meeting {κ : gK} {l : Launch} {D : va_G} {ad am : Nat → Nat} {cy : Nat → ClassId} {b bs L : Nat} {xs : Nat → Int32} {A : Nat → Prop} {σ μ : gMem} {n : Nat} (C : gC κ cL_law RL gLw 4 (gGL D ad am cy b) A room_1) (El : κ.2.1 = l) (hX : va_X bs L xs (gks κ) (gks κ).heap) (hbl : bs < (gks κ).heap.size) (hbA : ¬ A bs) (hGX : gInj (gGX D ad cy b)) (hGM : gInj (gGM D am cy b)) (hGL : gInj (gGL D ad am cy b)) (hL : L ≤ 384) (hn : n + 6 ≤ L) (hI : INV σ μ) (K : ∀ σ' μ', INV σ' μ' → wx κ (gGL D ad am cy b) A 4 (mrg σ' μ') 1269 [(3, .int (nI n)), (2, .ref (am 0)), (1, .ref (ad 0)), (0, .ref bs)] []) : wx κ (gGL D ad am cy b) A 4 (mrg σ μ) 860 [(3, .int (nI n)), (2, .ref (am 0)), (1, .ref (ad 0)), (0, .ref bs)] [] := by
  obtain ⟨r, f1, f2⟩ := p_meeting hI (xs (n + 1))
  have KK := K σ μ hI
  refine x_aln C 2 rfl dL_law_860 rfl ?_
  refine x_aln C 3 rfl dL_law_861 rfl ?_
  refine x_iln C 0 rfl dL_law_862 rfl ?_
  refine x_ic (v := 1) C (by decide) dL_law_863 rfl ?_
  refine x_iadd C dL_law_864 rfl ?_
  refine z_sld C hX hbl hbA (n := n + 1) (nI_add n 1) (by omega) (by omega) dL_law_865 rfl ?_
  refine z_cX (As := [.int (xs (n + 1))]) (rest := []) C hGL El 1 (c_X6_meeting hGX f1) (gBv km_L_101 kin_X6_meeting ksel_X6_meeting kini_X6 kc_X6_meeting) rfl rfl rfl ⟨rfl, by decide +kernel, by decide +kernel, by decide +kernel⟩ ⟨Nat.le_of_ble_eq_true rfl, Nat.le_of_ble_eq_true rfl⟩ rfl rfl (Nat.le_of_ble_eq_true rfl) dL_law_866 rfl ?_
  refine x_aln C 1 rfl dL_law_869 rfl ?_
  refine x_aln C 3 rfl dL_law_870 rfl ?_
  refine x_iln C 0 rfl dL_law_871 rfl ?_
  refine x_ic (v := 1) C (by decide) dL_law_872 rfl ?_
  refine x_iadd C dL_law_873 rfl ?_
  refine z_sld C hX hbl hbA (n := n + 1) (nI_add n 1) (by omega) (by omega) dL_law_874 rfl ?_
  refine z_cM (As := [.int (xs (n + 1))]) (rest := [.int r]) C hGL El 1 (c_X7_meeting hGM f2) (gBv km_L_104 kin_X7_meeting ksel_X7_meeting kini_X7 kc_X7_meeting) rfl rfl rfl ⟨rfl, by decide +kernel, by decide +kernel, by decide +kernel⟩ ⟨Nat.le_of_ble_eq_true rfl, Nat.le_of_ble_eq_true rfl⟩ rfl rfl (Nat.le_of_ble_eq_true rfl) dL_law_875 rfl ?_
  exact x_ic_eq (tgt := 1269) C dL_law_878 (by decide) rfl (fun _ => KK) (fun hc => absurd rfl hc)
theorem law_pairs {κ : gK} {l : Launch} {D : va_G} {ad am : Nat → Nat} {cy : Nat → ClassId} {b bs L : Nat} {xs : Nat → Int32} {A : Nat → Prop} {σ μ : gMem} {n : Nat} (C : gC κ cL_law RL gLw 4 (gGL D ad am cy b) A room_1) (El : κ.2.1 = l) (hX : va_X bs L xs (gks κ) (gks κ).heap) (hbl : bs < (gks κ).heap.size) (hbA : ¬ A bs) (hGX : gInj (gGX D ad cy b)) (hGM : gInj (gGM D am cy b)) (hGL : gInj (gGL D ad am cy b)) (hL : L ≤ 384) (hn : n + 6 ≤ L) (hI : INV σ μ) (K : ∀ σ' μ', INV σ' μ' → wx κ (gGL D ad am cy b) A 4 (mrg σ' μ') 1269 [(3, .int (nI n)), (2, .ref (am 0)), (1, .ref (ad 0)), (0, .ref bs)] []) : wx κ (gGL D ad am cy b) A 4 (mrg σ μ) 883 [(3, .int (nI n)), (2, .ref (am 0)), (1, .ref (ad 0)), (0, .ref bs)] [] := by
  obtain ⟨r, μ', f1, f2, I'⟩ := p_pairs hI (xs (n + 1))
  have KK := K σ μ' I'
  refine x_aln C 2 rfl dL_law_883 rfl ?_
  refine x_aln C 3 rfl dL_law_884 rfl ?_
  refine x_iln C 0 rfl dL_law_885 rfl ?_
  refine x_ic (v := 1) C (by decide) dL_law_886 rfl ?_
  refine x_iadd C dL_law_887 rfl ?_
  refine z_sld C hX hbl hbA (n := n + 1) (nI_add n 1) (by omega) (by omega) dL_law_888 rfl ?_
  refine z_cX (As := [.int (xs (n + 1))]) (rest := []) C hGL El 1 (c_X6_pairs hGX f1) (gBv km_L_105 kin_X6_pairs ksel_X6_pairs kini_X6 kc_X6_pairs) rfl rfl rfl ⟨rfl, by decide +kernel, by decide +kernel, by decide +kernel⟩ ⟨Nat.le_of_ble_eq_true rfl, Nat.le_of_ble_eq_true rfl⟩ rfl rfl (Nat.le_of_ble_eq_true rfl) dL_law_889 rfl ?_
  refine x_aln C 1 rfl dL_law_892 rfl ?_
  refine x_aln C 3 rfl dL_law_893 rfl ?_
  refine x_iln C 0 rfl dL_law_894 rfl ?_
  refine x_ic (v := 1) C (by decide) dL_law_895 rfl ?_
  refine x_iadd C dL_law_896 rfl ?_
  refine z_sld C hX hbl hbA (n := n + 1) (nI_add n 1) (by omega) (by omega) dL_law_897 rfl ?_
  refine z_cM (As := [.int (xs (n + 1))]) (rest := [.int r]) C hGL El 1 (c_X7_pairs hGM f2) (gBv km_L_108 kin_X7_pairs ksel_X7_pairs kini_X7 kc_X7_pairs) rfl rfl rfl ⟨rfl, by decide +kernel, by decide +kernel, by decide +kernel⟩ ⟨Nat.le_of_ble_eq_true rfl, Nat.le_of_ble_eq_true rfl⟩ rfl rfl (Nat.le_of_ble_eq_true rfl) dL_law_898 rfl ?_
  exact x_ic_eq (tgt := 1269) C dL_law_901 (by decide) rfl (fun _ => KK) (fun hc => absurd rfl hc)
theorem law_flood {κ : gK} {l : Launch} {D : va_G} {ad am : Nat → Nat} {cy : Nat → ClassId} {b bs L : Nat} {xs : Nat → Int32} {A : Nat → Prop} {σ μ : gMem} {n : Nat} (C : gC κ cL_law RL gLw 4 (gGL D ad am cy b) A room_1) (El : κ.2.1 = l) (hX : va_X bs L xs (gks κ) (gks κ).heap) (hbl : bs < (gks κ).heap.size) (hbA : ¬ A bs) (hGX : gInj (gGX D ad cy b)) (hGM : gInj (gGM D am cy b)) (hGL : gInj (gGL D ad am cy b)) (hL : L ≤ 384) (hn : n + 6 ≤ L) (hI : INV σ μ) (K : ∀ σ' μ', INV σ' μ' → wx κ (gGL D ad am cy b) A 4 (mrg σ' μ') 1269 [(3, .int (nI n)), (2, .ref (am 0)), (1, .ref (ad 0)), (0, .ref bs)] []) : wx κ (gGL D ad am cy b) A 4 (mrg σ μ) 906 [(3, .int (nI n)), (2, .ref (am 0)), (1, .ref (ad 0)), (0, .ref bs)] [] := by
  obtain ⟨r, σ', μ', f1, f2, I'⟩ := p_flood hI (xs (n + 1)) (xs (n + 2))
  have KK := K σ' μ' I'
  refine x_aln C 2 rfl dL_law_906 rfl ?_
  refine x_aln C 3 rfl dL_law_907 rfl ?_
  refine x_iln C 0 rfl dL_law_908 rfl ?_
  refine x_ic (v := 1) C (by decide) dL_law_909 rfl ?_
  refine x_iadd C dL_law_910 rfl ?_
  refine z_sld C hX hbl hbA (n := n + 1) (nI_add n 1) (by omega) (by omega) dL_law_911 rfl ?_
  refine x_aln C 3 rfl dL_law_912 rfl ?_
  refine x_iln C 0 rfl dL_law_913 rfl ?_
  refine x_ic (v := 2) C (by decide) dL_law_914 rfl ?_
  refine x_iadd C dL_law_915 rfl ?_
  refine z_sld C hX hbl hbA (n := n + 2) (nI_add n 2) (by omega) (by omega) dL_law_916 rfl ?_
  refine z_cX (As := [.int (xs (n + 1)), .int (xs (n + 2))]) (rest := []) C hGL El 2 (c_X6_flood hGX f1) (gBv km_L_109 kin_X6_flood ksel_X6_flood kini_X6 kc_X6_flood) rfl rfl rfl ⟨rfl, by decide +kernel, by decide +kernel, by decide +kernel⟩ ⟨Nat.le_of_ble_eq_true rfl, Nat.le_of_ble_eq_true rfl⟩ rfl rfl (Nat.le_of_ble_eq_true rfl) dL_law_917 rfl ?_
  refine x_aln C 1 rfl dL_law_920 rfl ?_
  refine x_aln C 3 rfl dL_law_921 rfl ?_
  refine x_iln C 0 rfl dL_law_922 rfl ?_
  refine x_ic (v := 1) C (by decide) dL_law_923 rfl ?_
  refine x_iadd C dL_law_924 rfl ?_
  refine z_sld C hX hbl hbA (n := n + 1) (nI_add n 1) (by omega) (by omega) dL_law_925 rfl ?_
  refine x_aln C 3 rfl dL_law_926 rfl ?_
  refine x_iln C 0 rfl dL_law_927 rfl ?_
  refine x_ic (v := 2) C (by decide) dL_law_928 rfl ?_
  refine x_iadd C dL_law_929 rfl ?_
  refine z_sld C hX hbl hbA (n := n + 2) (nI_add n 2) (by omega) (by omega) dL_law_930 rfl ?_
  refine z_cM (As := [.int (xs (n + 1)), .int (xs (n + 2))]) (rest := [.int r]) C hGL El 2 (c_X7_flood hGM f2) (gBv km_L_112 kin_X7_flood ksel_X7_flood kini_X7 kc_X7_flood) rfl rfl rfl ⟨rfl, by decide +kernel, by decide +kernel, by decide +kernel⟩ ⟨Nat.le_of_ble_eq_true rfl, Nat.le_of_ble_eq_true rfl⟩ rfl rfl (Nat.le_of_ble_eq_true rfl) dL_law_931 rfl ?_
  exact x_ic_eq (tgt := 1269) C dL_law_934 (by decide) rfl (fun _ => KK) (fun hc => absurd rfl hc)
theorem law_carried {κ : gK} {l : Launch} {D : va_G} {ad am : Nat → Nat} {cy : Nat → ClassId} {b bs L : Nat} {xs : Nat → Int32} {A : Nat → Prop} {σ μ : gMem} {n : Nat} (C : gC κ cL_law RL gLw 4 (gGL D ad am cy b) A room_1) (El : κ.2.1 = l) (hX : va_X bs L xs (gks κ) (gks κ).heap) (hbl : bs < (gks κ).heap.size) (hbA : ¬ A bs) (hGX : gInj (gGX D ad cy b)) (hGM : gInj (gGM D am cy b)) (hGL : gInj (gGL D ad am cy b)) (hL : L ≤ 384) (hn : n + 6 ≤ L) (hI : INV σ μ) (K : ∀ σ' μ', INV σ' μ' → wx κ (gGL D ad am cy b) A 4 (mrg σ' μ') 1269 [(3, .int (nI n)), (2, .ref (am 0)), (1, .ref (ad 0)), (0, .ref bs)] []) : wx κ (gGL D ad am cy b) A 4 (mrg σ μ) 939 [(3, .int (nI n)), (2, .ref (am 0)), (1, .ref (ad 0)), (0, .ref bs)] [] := by
  obtain ⟨r, f1, f2⟩ := p_carried hI (xs (n + 1)) (xs (n + 2)) (xs (n + 3))
  have KK := K σ μ hI
  refine x_aln C 2 rfl dL_law_939 rfl ?_
  refine x_aln C 3 rfl dL_law_940 rfl ?_
  refine x_iln C 0 rfl dL_law_941 rfl ?_
  refine x_ic (v := 1) C (by decide) dL_law_942 rfl ?_
  refine x_iadd C dL_law_943 rfl ?_
  refine z_sld C hX hbl hbA (n := n + 1) (nI_add n 1) (by omega) (by omega) dL_law_944 rfl ?_
  refine x_aln C 3 rfl dL_law_945 rfl ?_
  refine x_iln C 0 rfl dL_law_946 rfl ?_
  refine x_ic (v := 2) C (by decide) dL_law_947 rfl ?_
  refine x_iadd C dL_law_948 rfl ?_
  refine z_sld C hX hbl hbA (n := n + 2) (nI_add n 2) (by omega) (by omega) dL_law_949 rfl ?_
  refine x_aln C 3 rfl dL_law_950 rfl ?_
  refine x_iln C 0 rfl dL_law_951 rfl ?_
  refine x_ic (v := 3) C (by decide) dL_law_952 rfl ?_
  refine x_iadd C dL_law_953 rfl ?_
  refine z_sld C hX hbl hbA (n := n + 3) (nI_add n 3) (by omega) (by omega) dL_law_954 rfl ?_
  refine z_cX (As := [.int (xs (n + 1)), .int (xs (n + 2)), .int (xs (n + 3))]) (rest := []) C hGL El 3 (c_X6_carried hGX f1) (gBv km_L_113 kin_X6_carried ksel_X6_carried kini_X6 kc_X6_carried) rfl rfl rfl ⟨rfl, by decide +kernel, by decide +kernel, by decide +kernel⟩ ⟨Nat.le_of_ble_eq_true rfl, Nat.le_of_ble_eq_true rfl⟩ rfl rfl (Nat.le_of_ble_eq_true rfl) dL_law_955 rfl ?_
  refine x_aln C 1 rfl dL_law_958 rfl ?_
  refine x_aln C 3 rfl dL_law_959 rfl ?_
  refine x_iln C 0 rfl dL_law_960 rfl ?_
  refine x_ic (v := 1) C (by decide) dL_law_961 rfl ?_
  refine x_iadd C dL_law_962 rfl ?_
  refine z_sld C hX hbl hbA (n := n + 1) (nI_add n 1) (by omega) (by omega) dL_law_963 rfl ?_
  refine x_aln C 3 rfl dL_law_964 rfl ?_
  refine x_iln C 0 rfl dL_law_965 rfl ?_
  refine x_ic (v := 2) C (by decide) dL_law_966 rfl ?_
  refine x_iadd C dL_law_967 rfl ?_
  refine z_sld C hX hbl hbA (n := n + 2) (nI_add n 2) (by omega) (by omega) dL_law_968 rfl ?_
  refine x_aln C 3 rfl dL_law_969 rfl ?_
  refine x_iln C 0 rfl dL_law_970 rfl ?_
  refine x_ic (v := 3) C (by decide) dL_law_971 rfl ?_
  refine x_iadd C dL_law_972 rfl ?_
  refine z_sld C hX hbl hbA (n := n + 3) (nI_add n 3) (by omega) (by omega) dL_law_973 rfl ?_
  refine z_cM (As := [.int (xs (n + 1)), .int (xs (n + 2)), .int (xs (n + 3))]) (rest := [.int r]) C hGL El 3 (c_X7_carried hGM f2) (gBv km_L_116 kin_X7_carried ksel_X7_carried kini_X7 kc_X7_carried) rfl rfl rfl ⟨rfl, by decide +kernel, by decide +kernel, by decide +kernel⟩ ⟨Nat.le_of_ble_eq_true rfl, Nat.le_of_ble_eq_true rfl⟩ rfl rfl (Nat.le_of_ble_eq_true rfl) dL_law_974 rfl ?_
  exact x_ic_eq (tgt := 1269) C dL_law_977 (by decide) rfl (fun _ => KK) (fun hc => absurd rfl hc)
theorem law_wrong {κ : gK} {l : Launch} {D : va_G} {ad am : Nat → Nat} {cy : Nat → ClassId} {b bs L : Nat} {xs : Nat → Int32} {A : Nat → Prop} {σ μ : gMem} {n : Nat} (C : gC κ cL_law RL gLw 4 (gGL D ad am cy b) A room_1) (El : κ.2.1 = l) (hX : va_X bs L xs (gks κ) (gks κ).heap) (hbl : bs < (gks κ).heap.size) (hbA : ¬ A bs) (hGX : gInj (gGX D ad cy b)) (hGM : gInj (gGM D am cy b)) (hGL : gInj (gGL D ad am cy b)) (hL : L ≤ 384) (hn : n + 6 ≤ L) (hI : INV σ μ) (K : ∀ σ' μ', INV σ' μ' → wx κ (gGL D ad am cy b) A 4 (mrg σ' μ') 1269 [(3, .int (nI n)), (2, .ref (am 0)), (1, .ref (ad 0)), (0, .ref bs)] []) : wx κ (gGL D ad am cy b) A 4 (mrg σ μ) 982 [(3, .int (nI n)), (2, .ref (am 0)), (1, .ref (ad 0)), (0, .ref bs)] [] := by
  obtain ⟨r, f1, f2⟩ := p_wrong hI (xs (n + 1)) (xs (n + 2))
  have KK := K σ μ hI
  refine x_aln C 2 rfl dL_law_982 rfl ?_
  refine x_aln C 3 rfl dL_law_983 rfl ?_
  refine x_iln C 0 rfl dL_law_984 rfl ?_
  refine x_ic (v := 1) C (by decide) dL_law_985 rfl ?_
  refine x_iadd C dL_law_986 rfl ?_
  refine z_sld C hX hbl hbA (n := n + 1) (nI_add n 1) (by omega) (by omega) dL_law_987 rfl ?_
  refine x_aln C 3 rfl dL_law_988 rfl ?_
  refine x_iln C 0 rfl dL_law_989 rfl ?_
  refine x_ic (v := 2) C (by decide) dL_law_990 rfl ?_
  refine x_iadd C dL_law_991 rfl ?_
  refine z_sld C hX hbl hbA (n := n + 2) (nI_add n 2) (by omega) (by omega) dL_law_992 rfl ?_
  refine z_cX (As := [.int (xs (n + 1)), .int (xs (n + 2))]) (rest := []) C hGL El 2 (c_X6_wrong hGX f1) (gBv km_L_117 kin_X6_wrong ksel_X6_wrong kini_X6 kc_X6_wrong) rfl rfl rfl ⟨rfl, by decide +kernel, by decide +kernel, by decide +kernel⟩ ⟨Nat.le_of_ble_eq_true rfl, Nat.le_of_ble_eq_true rfl⟩ rfl rfl (Nat.le_of_ble_eq_true rfl) dL_law_993 rfl ?_
  refine x_aln C 1 rfl dL_law_996 rfl ?_
  refine x_aln C 3 rfl dL_law_997 rfl ?_
  refine x_iln C 0 rfl dL_law_998 rfl ?_
  refine x_ic (v := 1) C (by decide) dL_law_999 rfl ?_
  refine x_iadd C dL_law_1000 rfl ?_
  refine z_sld C hX hbl hbA (n := n + 1) (nI_add n 1) (by omega) (by omega) dL_law_1001 rfl ?_
  refine x_aln C 3 rfl dL_law_1002 rfl ?_
  refine x_iln C 0 rfl dL_law_1003 rfl ?_
  refine x_ic (v := 2) C (by decide) dL_law_1004 rfl ?_
  refine x_iadd C dL_law_1005 rfl ?_
  refine z_sld C hX hbl hbA (n := n + 2) (nI_add n 2) (by omega) (by omega) dL_law_1006 rfl ?_
  refine z_cM (As := [.int (xs (n + 1)), .int (xs (n + 2))]) (rest := [.int r]) C hGL El 2 (c_X7_wrong hGM f2) (gBv km_L_120 kin_X7_wrong ksel_X7_wrong kini_X7 kc_X7_wrong) rfl rfl rfl ⟨rfl, by decide +kernel, by decide +kernel, by decide +kernel⟩ ⟨Nat.le_of_ble_eq_true rfl, Nat.le_of_ble_eq_true rfl⟩ rfl rfl (Nat.le_of_ble_eq_true rfl) dL_law_1007 rfl ?_
  exact x_ic_eq (tgt := 1269) C dL_law_1010 (by decide) rfl (fun _ => KK) (fun hc => absurd rfl hc)
theorem law_clear {κ : gK} {l : Launch} {D : va_G} {ad am : Nat → Nat} {cy : Nat → ClassId} {b bs L : Nat} {xs : Nat → Int32} {A : Nat → Prop} {σ μ : gMem} {n : Nat} (C : gC κ cL_law RL gLw 4 (gGL D ad am cy b) A room_1) (El : κ.2.1 = l) (hX : va_X bs L xs (gks κ) (gks κ).heap) (hbl : bs < (gks κ).heap.size) (hbA : ¬ A bs) (hGX : gInj (gGX D ad cy b)) (hGM : gInj (gGM D am cy b)) (hGL : gInj (gGL D ad am cy b)) (hL : L ≤ 384) (hn : n + 6 ≤ L) (hI : INV σ μ) (K : ∀ σ' μ', INV σ' μ' → wx κ (gGL D ad am cy b) A 4 (mrg σ' μ') 1269 [(3, .int (nI n)), (2, .ref (am 0)), (1, .ref (ad 0)), (0, .ref bs)] []) : wx κ (gGL D ad am cy b) A 4 (mrg σ μ) 1015 [(3, .int (nI n)), (2, .ref (am 0)), (1, .ref (ad 0)), (0, .ref bs)] [] := by
  obtain ⟨r, σ', μ', f1, f2, I'⟩ := p_clear hI 
  have KK := K σ' μ' I'
  refine x_aln C 2 rfl dL_law_1015 rfl ?_
  refine z_cX (As := []) (rest := []) C hGL El 0 (c_X6_clear hGX f1) (gBv km_L_121 kin_X6_clear ksel_X6_clear kini_X6 kc_X6_clear) rfl rfl rfl ⟨rfl, by decide +kernel, by decide +kernel, by decide +kernel⟩ ⟨Nat.le_of_ble_eq_true rfl, Nat.le_of_ble_eq_true rfl⟩ rfl rfl (Nat.le_of_ble_eq_true rfl) dL_law_1016 rfl ?_
  refine x_aln C 1 rfl dL_law_1019 rfl ?_
  refine z_cM (As := []) (rest := [.int r]) C hGL El 0 (c_X7_clear hGM f2) (gBv km_L_124 kin_X7_clear ksel_X7_clear kini_X7 kc_X7_clear) rfl rfl rfl ⟨rfl, by decide +kernel, by decide +kernel, by decide +kernel⟩ ⟨Nat.le_of_ble_eq_true rfl, Nat.le_of_ble_eq_true rfl⟩ rfl rfl (Nat.le_of_ble_eq_true rfl) dL_law_1020 rfl ?_
  exact x_ic_eq (tgt := 1269) C dL_law_1023 (by decide) rfl (fun _ => KK) (fun hc => absurd rfl hc)
theorem law_image {κ : gK} {l : Launch} {D : va_G} {ad am : Nat → Nat} {cy : Nat → ClassId} {b bs L : Nat} {xs : Nat → Int32} {A : Nat → Prop} {σ μ : gMem} {n : Nat} (C : gC κ cL_law RL gLw 4 (gGL D ad am cy b) A room_1) (El : κ.2.1 = l) (hX : va_X bs L xs (gks κ) (gks κ).heap) (hbl : bs < (gks κ).heap.size) (hbA : ¬ A bs) (hGX : gInj (gGX D ad cy b)) (hGM : gInj (gGM D am cy b)) (hGL : gInj (gGL D ad am cy b)) (hL : L ≤ 384) (hn : n + 6 ≤ L) (hI : INV σ μ) (K : ∀ σ' μ', INV σ' μ' → wx κ (gGL D ad am cy b) A 4 (mrg σ' μ') 1269 [(3, .int (nI n)), (2, .ref (am 0)), (1, .ref (ad 0)), (0, .ref bs)] []) : wx κ (gGL D ad am cy b) A 4 (mrg σ μ) 1028 [(3, .int (nI n)), (2, .ref (am 0)), (1, .ref (ad 0)), (0, .ref bs)] [] := by
  obtain ⟨r, σ', μ', f1, f2, I'⟩ := p_image hI 
  have KK := K σ' μ' I'
  refine x_aln C 2 rfl dL_law_1028 rfl ?_
  refine z_cX (As := []) (rest := []) C hGL El 0 (c_X6_image hGX f1) (gBv km_L_125 kin_X6_image ksel_X6_image kini_X6 kc_X6_image) rfl rfl rfl ⟨rfl, by decide +kernel, by decide +kernel, by decide +kernel⟩ ⟨Nat.le_of_ble_eq_true rfl, Nat.le_of_ble_eq_true rfl⟩ rfl rfl (Nat.le_of_ble_eq_true rfl) dL_law_1029 rfl ?_
  refine x_aln C 1 rfl dL_law_1032 rfl ?_
  refine z_cM (As := []) (rest := [.int r]) C hGL El 0 (c_X7_image hGM f2) (gBv km_L_128 kin_X7_image ksel_X7_image kini_X7 kc_X7_image) rfl rfl rfl ⟨rfl, by decide +kernel, by decide +kernel, by decide +kernel⟩ ⟨Nat.le_of_ble_eq_true rfl, Nat.le_of_ble_eq_true rfl⟩ rfl rfl (Nat.le_of_ble_eq_true rfl) dL_law_1033 rfl ?_
  exact x_ic_eq (tgt := 1269) C dL_law_1036 (by decide) rfl (fun _ => KK) (fun hc => absurd rfl hc)
theorem law_restore {κ : gK} {l : Launch} {D : va_G} {ad am : Nat → Nat} {cy : Nat → ClassId} {b bs L : Nat} {xs : Nat → Int32} {A : Nat → Prop} {σ μ : gMem} {n : Nat} (C : gC κ cL_law RL gLw 4 (gGL D ad am cy b) A room_1) (El : κ.2.1 = l) (hX : va_X bs L xs (gks κ) (gks κ).heap) (hbl : bs < (gks κ).heap.size) (hbA : ¬ A bs) (hGX : gInj (gGX D ad cy b)) (hGM : gInj (gGM D am cy b)) (hGL : gInj (gGL D ad am cy b)) (hL : L ≤ 384) (hn : n + 6 ≤ L) (hI : INV σ μ) (K : ∀ σ' μ', INV σ' μ' → wx κ (gGL D ad am cy b) A 4 (mrg σ' μ') 1269 [(3, .int (nI n)), (2, .ref (am 0)), (1, .ref (ad 0)), (0, .ref bs)] []) : wx κ (gGL D ad am cy b) A 4 (mrg σ μ) 1041 [(3, .int (nI n)), (2, .ref (am 0)), (1, .ref (ad 0)), (0, .ref bs)] [] := by
  obtain ⟨r, σ', μ', f1, f2, I'⟩ := p_restore hI 
  have KK := K σ' μ' I'
  refine x_aln C 2 rfl dL_law_1041 rfl ?_
  refine z_cX (As := []) (rest := []) C hGL El 0 (c_X6_restore hGX f1) (gBv km_L_129 kin_X6_restore ksel_X6_restore kini_X6 kc_X6_restore) rfl rfl rfl ⟨rfl, by decide +kernel, by decide +kernel, by decide +kernel⟩ ⟨Nat.le_of_ble_eq_true rfl, Nat.le_of_ble_eq_true rfl⟩ rfl rfl (Nat.le_of_ble_eq_true rfl) dL_law_1042 rfl ?_
  refine x_aln C 1 rfl dL_law_1045 rfl ?_
  refine z_cM (As := []) (rest := [.int r]) C hGL El 0 (c_X7_restore hGM f2) (gBv km_L_132 kin_X7_restore ksel_X7_restore kini_X7 kc_X7_restore) rfl rfl rfl ⟨rfl, by decide +kernel, by decide +kernel, by decide +kernel⟩ ⟨Nat.le_of_ble_eq_true rfl, Nat.le_of_ble_eq_true rfl⟩ rfl rfl (Nat.le_of_ble_eq_true rfl) dL_law_1046 rfl ?_
  exact x_ic_eq (tgt := 1269) C dL_law_1049 (by decide) rfl (fun _ => KK) (fun hc => absurd rfl hc)
theorem law_tides {κ : gK} {l : Launch} {D : va_G} {ad am : Nat → Nat} {cy : Nat → ClassId} {b bs L : Nat} {xs : Nat → Int32} {A : Nat → Prop} {σ μ : gMem} {n : Nat} (C : gC κ cL_law RL gLw 4 (gGL D ad am cy b) A room_1) (El : κ.2.1 = l) (hX : va_X bs L xs (gks κ) (gks κ).heap) (hbl : bs < (gks κ).heap.size) (hbA : ¬ A bs) (hGX : gInj (gGX D ad cy b)) (hGM : gInj (gGM D am cy b)) (hGL : gInj (gGL D ad am cy b)) (hL : L ≤ 384) (hn : n + 6 ≤ L) (hI : INV σ μ) (K : ∀ σ' μ', INV σ' μ' → wx κ (gGL D ad am cy b) A 4 (mrg σ' μ') 1269 [(3, .int (nI n)), (2, .ref (am 0)), (1, .ref (ad 0)), (0, .ref bs)] []) : wx κ (gGL D ad am cy b) A 4 (mrg σ μ) 1054 [(3, .int (nI n)), (2, .ref (am 0)), (1, .ref (ad 0)), (0, .ref bs)] [] := by
  obtain ⟨r, σ', μ', f1, f2, I'⟩ := p_tides hI (xs (n + 1)) (xs (n + 2))
  have KK := K σ' μ' I'
  refine x_aln C 2 rfl dL_law_1054 rfl ?_
  refine x_aln C 3 rfl dL_law_1055 rfl ?_
  refine x_iln C 0 rfl dL_law_1056 rfl ?_
  refine x_ic (v := 1) C (by decide) dL_law_1057 rfl ?_
  refine x_iadd C dL_law_1058 rfl ?_
  refine z_sld C hX hbl hbA (n := n + 1) (nI_add n 1) (by omega) (by omega) dL_law_1059 rfl ?_
  refine x_aln C 3 rfl dL_law_1060 rfl ?_
  refine x_iln C 0 rfl dL_law_1061 rfl ?_
  refine x_ic (v := 2) C (by decide) dL_law_1062 rfl ?_
  refine x_iadd C dL_law_1063 rfl ?_
  refine z_sld C hX hbl hbA (n := n + 2) (nI_add n 2) (by omega) (by omega) dL_law_1064 rfl ?_
  refine z_cX (As := [.int (xs (n + 1)), .int (xs (n + 2))]) (rest := []) C hGL El 2 (c_X6_tides hGX f1) (gBv km_L_133 kin_X6_tides ksel_X6_tides kini_X6 kc_X6_tides) rfl rfl rfl ⟨rfl, by decide +kernel, by decide +kernel, by decide +kernel⟩ ⟨Nat.le_of_ble_eq_true rfl, Nat.le_of_ble_eq_true rfl⟩ rfl rfl (Nat.le_of_ble_eq_true rfl) dL_law_1065 rfl ?_
  refine x_aln C 1 rfl dL_law_1068 rfl ?_
  refine x_aln C 3 rfl dL_law_1069 rfl ?_
  refine x_iln C 0 rfl dL_law_1070 rfl ?_
  refine x_ic (v := 1) C (by decide) dL_law_1071 rfl ?_
  refine x_iadd C dL_law_1072 rfl ?_
  refine z_sld C hX hbl hbA (n := n + 1) (nI_add n 1) (by omega) (by omega) dL_law_1073 rfl ?_
  refine x_aln C 3 rfl dL_law_1074 rfl ?_
  refine x_iln C 0 rfl dL_law_1075 rfl ?_
  refine x_ic (v := 2) C (by decide) dL_law_1076 rfl ?_
  refine x_iadd C dL_law_1077 rfl ?_
  refine z_sld C hX hbl hbA (n := n + 2) (nI_add n 2) (by omega) (by omega) dL_law_1078 rfl ?_
  refine z_cM (As := [.int (xs (n + 1)), .int (xs (n + 2))]) (rest := [.int r]) C hGL El 2 (c_X7_tides hGM f2) (gBv km_L_136 kin_X7_tides ksel_X7_tides kini_X7 kc_X7_tides) rfl rfl rfl ⟨rfl, by decide +kernel, by decide +kernel, by decide +kernel⟩ ⟨Nat.le_of_ble_eq_true rfl, Nat.le_of_ble_eq_true rfl⟩ rfl rfl (Nat.le_of_ble_eq_true rfl) dL_law_1079 rfl ?_
  exact x_ic_eq (tgt := 1269) C dL_law_1082 (by decide) rfl (fun _ => KK) (fun hc => absurd rfl hc)
theorem law_sheet {κ : gK} {l : Launch} {D : va_G} {ad am : Nat → Nat} {cy : Nat → ClassId} {b bs L : Nat} {xs : Nat → Int32} {A : Nat → Prop} {σ μ : gMem} {n : Nat} (C : gC κ cL_law RL gLw 4 (gGL D ad am cy b) A room_1) (El : κ.2.1 = l) (hX : va_X bs L xs (gks κ) (gks κ).heap) (hbl : bs < (gks κ).heap.size) (hbA : ¬ A bs) (hGX : gInj (gGX D ad cy b)) (hGM : gInj (gGM D am cy b)) (hGL : gInj (gGL D ad am cy b)) (hL : L ≤ 384) (hn : n + 6 ≤ L) (hI : INV σ μ) (K : ∀ σ' μ', INV σ' μ' → wx κ (gGL D ad am cy b) A 4 (mrg σ' μ') 1269 [(3, .int (nI n)), (2, .ref (am 0)), (1, .ref (ad 0)), (0, .ref bs)] []) : wx κ (gGL D ad am cy b) A 4 (mrg σ μ) 1087 [(3, .int (nI n)), (2, .ref (am 0)), (1, .ref (ad 0)), (0, .ref bs)] [] := by
  obtain ⟨r, σ', μ', f1, f2, I'⟩ := p_sheet hI (xs (n + 1)) (xs (n + 2)) (xs (n + 3))
  have KK := K σ' μ' I'
  refine x_aln C 2 rfl dL_law_1087 rfl ?_
  refine x_aln C 3 rfl dL_law_1088 rfl ?_
  refine x_iln C 0 rfl dL_law_1089 rfl ?_
  refine x_ic (v := 1) C (by decide) dL_law_1090 rfl ?_
  refine x_iadd C dL_law_1091 rfl ?_
  refine z_sld C hX hbl hbA (n := n + 1) (nI_add n 1) (by omega) (by omega) dL_law_1092 rfl ?_
  refine x_aln C 3 rfl dL_law_1093 rfl ?_
  refine x_iln C 0 rfl dL_law_1094 rfl ?_
  refine x_ic (v := 2) C (by decide) dL_law_1095 rfl ?_
  refine x_iadd C dL_law_1096 rfl ?_
  refine z_sld C hX hbl hbA (n := n + 2) (nI_add n 2) (by omega) (by omega) dL_law_1097 rfl ?_
  refine x_aln C 3 rfl dL_law_1098 rfl ?_
  refine x_iln C 0 rfl dL_law_1099 rfl ?_
  refine x_ic (v := 3) C (by decide) dL_law_1100 rfl ?_
  refine x_iadd C dL_law_1101 rfl ?_
  refine z_sld C hX hbl hbA (n := n + 3) (nI_add n 3) (by omega) (by omega) dL_law_1102 rfl ?_
  refine z_cX (As := [.int (xs (n + 1)), .int (xs (n + 2)), .int (xs (n + 3))]) (rest := []) C hGL El 3 (c_X6_sheet hGX f1) (gBv km_L_137 kin_X6_sheet ksel_X6_sheet kini_X6 kc_X6_sheet) rfl rfl rfl ⟨rfl, by decide +kernel, by decide +kernel, by decide +kernel⟩ ⟨Nat.le_of_ble_eq_true rfl, Nat.le_of_ble_eq_true rfl⟩ rfl rfl (Nat.le_of_ble_eq_true rfl) dL_law_1103 rfl ?_
  refine x_aln C 1 rfl dL_law_1106 rfl ?_
  refine x_aln C 3 rfl dL_law_1107 rfl ?_
  refine x_iln C 0 rfl dL_law_1108 rfl ?_
  refine x_ic (v := 1) C (by decide) dL_law_1109 rfl ?_
  refine x_iadd C dL_law_1110 rfl ?_
  refine z_sld C hX hbl hbA (n := n + 1) (nI_add n 1) (by omega) (by omega) dL_law_1111 rfl ?_
  refine x_aln C 3 rfl dL_law_1112 rfl ?_
  refine x_iln C 0 rfl dL_law_1113 rfl ?_
  refine x_ic (v := 2) C (by decide) dL_law_1114 rfl ?_
  refine x_iadd C dL_law_1115 rfl ?_
  refine z_sld C hX hbl hbA (n := n + 2) (nI_add n 2) (by omega) (by omega) dL_law_1116 rfl ?_
  refine x_aln C 3 rfl dL_law_1117 rfl ?_
  refine x_iln C 0 rfl dL_law_1118 rfl ?_
  refine x_ic (v := 3) C (by decide) dL_law_1119 rfl ?_
  refine x_iadd C dL_law_1120 rfl ?_
  refine z_sld C hX hbl hbA (n := n + 3) (nI_add n 3) (by omega) (by omega) dL_law_1121 rfl ?_
  refine z_cM (As := [.int (xs (n + 1)), .int (xs (n + 2)), .int (xs (n + 3))]) (rest := [.int r]) C hGL El 3 (c_X7_sheet hGM f2) (gBv km_L_140 kin_X7_sheet ksel_X7_sheet kini_X7 kc_X7_sheet) rfl rfl rfl ⟨rfl, by decide +kernel, by decide +kernel, by decide +kernel⟩ ⟨Nat.le_of_ble_eq_true rfl, Nat.le_of_ble_eq_true rfl⟩ rfl rfl (Nat.le_of_ble_eq_true rfl) dL_law_1122 rfl ?_
  exact x_ic_eq (tgt := 1269) C dL_law_1125 (by decide) rfl (fun _ => KK) (fun hc => absurd rfl hc)
theorem law_drop {κ : gK} {l : Launch} {D : va_G} {ad am : Nat → Nat} {cy : Nat → ClassId} {b bs L : Nat} {xs : Nat → Int32} {A : Nat → Prop} {σ μ : gMem} {n : Nat} (C : gC κ cL_law RL gLw 4 (gGL D ad am cy b) A room_1) (El : κ.2.1 = l) (hX : va_X bs L xs (gks κ) (gks κ).heap) (hbl : bs < (gks κ).heap.size) (hbA : ¬ A bs) (hGX : gInj (gGX D ad cy b)) (hGM : gInj (gGM D am cy b)) (hGL : gInj (gGL D ad am cy b)) (hL : L ≤ 384) (hn : n + 6 ≤ L) (hI : INV σ μ) (K : ∀ σ' μ', INV σ' μ' → wx κ (gGL D ad am cy b) A 4 (mrg σ' μ') 1269 [(3, .int (nI n)), (2, .ref (am 0)), (1, .ref (ad 0)), (0, .ref bs)] []) : wx κ (gGL D ad am cy b) A 4 (mrg σ μ) 1130 [(3, .int (nI n)), (2, .ref (am 0)), (1, .ref (ad 0)), (0, .ref bs)] [] := by
  obtain ⟨r, σ', μ', f1, f2, I'⟩ := p_drop hI (xs (n + 1))
  have KK := K σ' μ' I'
  refine x_aln C 2 rfl dL_law_1130 rfl ?_
  refine x_aln C 3 rfl dL_law_1131 rfl ?_
  refine x_iln C 0 rfl dL_law_1132 rfl ?_
  refine x_ic (v := 1) C (by decide) dL_law_1133 rfl ?_
  refine x_iadd C dL_law_1134 rfl ?_
  refine z_sld C hX hbl hbA (n := n + 1) (nI_add n 1) (by omega) (by omega) dL_law_1135 rfl ?_
  refine z_cX (As := [.int (xs (n + 1))]) (rest := []) C hGL El 1 (c_X6_drop hGX f1) (gBv km_L_141 kin_X6_drop ksel_X6_drop kini_X6 kc_X6_drop) rfl rfl rfl ⟨rfl, by decide +kernel, by decide +kernel, by decide +kernel⟩ ⟨Nat.le_of_ble_eq_true rfl, Nat.le_of_ble_eq_true rfl⟩ rfl rfl (Nat.le_of_ble_eq_true rfl) dL_law_1136 rfl ?_
  refine x_aln C 1 rfl dL_law_1139 rfl ?_
  refine x_aln C 3 rfl dL_law_1140 rfl ?_
  refine x_iln C 0 rfl dL_law_1141 rfl ?_
  refine x_ic (v := 1) C (by decide) dL_law_1142 rfl ?_
  refine x_iadd C dL_law_1143 rfl ?_
  refine z_sld C hX hbl hbA (n := n + 1) (nI_add n 1) (by omega) (by omega) dL_law_1144 rfl ?_
  refine z_cM (As := [.int (xs (n + 1))]) (rest := [.int r]) C hGL El 1 (c_X7_drop hGM f2) (gBv km_L_144 kin_X7_drop ksel_X7_drop kini_X7 kc_X7_drop) rfl rfl rfl ⟨rfl, by decide +kernel, by decide +kernel, by decide +kernel⟩ ⟨Nat.le_of_ble_eq_true rfl, Nat.le_of_ble_eq_true rfl⟩ rfl rfl (Nat.le_of_ble_eq_true rfl) dL_law_1145 rfl ?_
  exact x_ic_eq (tgt := 1269) C dL_law_1148 (by decide) rfl (fun _ => KK) (fun hc => absurd rfl hc)
theorem law_item {κ : gK} {l : Launch} {D : va_G} {ad am : Nat → Nat} {cy : Nat → ClassId} {b bs L : Nat} {xs : Nat → Int32} {A : Nat → Prop} {σ μ : gMem} {n : Nat} (C : gC κ cL_law RL gLw 4 (gGL D ad am cy b) A room_1) (El : κ.2.1 = l) (hX : va_X bs L xs (gks κ) (gks κ).heap) (hbl : bs < (gks κ).heap.size) (hbA : ¬ A bs) (hGX : gInj (gGX D ad cy b)) (hGM : gInj (gGM D am cy b)) (hGL : gInj (gGL D ad am cy b)) (hL : L ≤ 384) (hn : n + 6 ≤ L) (hI : INV σ μ) (K : ∀ σ' μ', INV σ' μ' → wx κ (gGL D ad am cy b) A 4 (mrg σ' μ') 1269 [(3, .int (nI n)), (2, .ref (am 0)), (1, .ref (ad 0)), (0, .ref bs)] []) : wx κ (gGL D ad am cy b) A 4 (mrg σ μ) 1153 [(3, .int (nI n)), (2, .ref (am 0)), (1, .ref (ad 0)), (0, .ref bs)] [] := by
  obtain ⟨r, σ', μ', f1, f2, I'⟩ := p_item hI (xs (n + 1)) (xs (n + 2)) (xs (n + 3)) (xs (n + 4))
  have KK := K σ' μ' I'
  refine x_aln C 2 rfl dL_law_1153 rfl ?_
  refine x_aln C 3 rfl dL_law_1154 rfl ?_
  refine x_iln C 0 rfl dL_law_1155 rfl ?_
  refine x_ic (v := 1) C (by decide) dL_law_1156 rfl ?_
  refine x_iadd C dL_law_1157 rfl ?_
  refine z_sld C hX hbl hbA (n := n + 1) (nI_add n 1) (by omega) (by omega) dL_law_1158 rfl ?_
  refine x_aln C 3 rfl dL_law_1159 rfl ?_
  refine x_iln C 0 rfl dL_law_1160 rfl ?_
  refine x_ic (v := 2) C (by decide) dL_law_1161 rfl ?_
  refine x_iadd C dL_law_1162 rfl ?_
  refine z_sld C hX hbl hbA (n := n + 2) (nI_add n 2) (by omega) (by omega) dL_law_1163 rfl ?_
  refine x_aln C 3 rfl dL_law_1164 rfl ?_
  refine x_iln C 0 rfl dL_law_1165 rfl ?_
  refine x_ic (v := 3) C (by decide) dL_law_1166 rfl ?_
  refine x_iadd C dL_law_1167 rfl ?_
  refine z_sld C hX hbl hbA (n := n + 3) (nI_add n 3) (by omega) (by omega) dL_law_1168 rfl ?_
  refine x_aln C 3 rfl dL_law_1169 rfl ?_
  refine x_iln C 0 rfl dL_law_1170 rfl ?_
  refine x_ic (v := 4) C (by decide) dL_law_1171 rfl ?_
  refine x_iadd C dL_law_1172 rfl ?_
  refine z_sld C hX hbl hbA (n := n + 4) (nI_add n 4) (by omega) (by omega) dL_law_1173 rfl ?_
  refine z_cX (As := [.int (xs (n + 1)), .int (xs (n + 2)), .int (xs (n + 3)), .int (xs (n + 4))]) (rest := []) C hGL El 4 (c_X6_item hGX f1) (gBv km_L_145 kin_X6_item ksel_X6_item kini_X6 kc_X6_item) rfl rfl rfl ⟨rfl, by decide +kernel, by decide +kernel, by decide +kernel⟩ ⟨Nat.le_of_ble_eq_true rfl, Nat.le_of_ble_eq_true rfl⟩ rfl rfl (Nat.le_of_ble_eq_true rfl) dL_law_1174 rfl ?_
  refine x_aln C 1 rfl dL_law_1177 rfl ?_
  refine x_aln C 3 rfl dL_law_1178 rfl ?_
  refine x_iln C 0 rfl dL_law_1179 rfl ?_
  refine x_ic (v := 1) C (by decide) dL_law_1180 rfl ?_
  refine x_iadd C dL_law_1181 rfl ?_
  refine z_sld C hX hbl hbA (n := n + 1) (nI_add n 1) (by omega) (by omega) dL_law_1182 rfl ?_
  refine x_aln C 3 rfl dL_law_1183 rfl ?_
  refine x_iln C 0 rfl dL_law_1184 rfl ?_
  refine x_ic (v := 2) C (by decide) dL_law_1185 rfl ?_
  refine x_iadd C dL_law_1186 rfl ?_
  refine z_sld C hX hbl hbA (n := n + 2) (nI_add n 2) (by omega) (by omega) dL_law_1187 rfl ?_
  refine x_aln C 3 rfl dL_law_1188 rfl ?_
  refine x_iln C 0 rfl dL_law_1189 rfl ?_
  refine x_ic (v := 3) C (by decide) dL_law_1190 rfl ?_
  refine x_iadd C dL_law_1191 rfl ?_
  refine z_sld C hX hbl hbA (n := n + 3) (nI_add n 3) (by omega) (by omega) dL_law_1192 rfl ?_
  refine x_aln C 3 rfl dL_law_1193 rfl ?_
  refine x_iln C 0 rfl dL_law_1194 rfl ?_
  refine x_ic (v := 4) C (by decide) dL_law_1195 rfl ?_
  refine x_iadd C dL_law_1196 rfl ?_
  refine z_sld C hX hbl hbA (n := n + 4) (nI_add n 4) (by omega) (by omega) dL_law_1197 rfl ?_
  refine z_cM (As := [.int (xs (n + 1)), .int (xs (n + 2)), .int (xs (n + 3)), .int (xs (n + 4))]) (rest := [.int r]) C hGL El 4 (c_X7_item hGM f2) (gBv km_L_148 kin_X7_item ksel_X7_item kini_X7 kc_X7_item) rfl rfl rfl ⟨rfl, by decide +kernel, by decide +kernel, by decide +kernel⟩ ⟨Nat.le_of_ble_eq_true rfl, Nat.le_of_ble_eq_true rfl⟩ rfl rfl (Nat.le_of_ble_eq_true rfl) dL_law_1198 rfl ?_
  exact x_ic_eq (tgt := 1269) C dL_law_1201 (by decide) rfl (fun _ => KK) (fun hc => absurd rfl hc)
theorem law_copy {κ : gK} {l : Launch} {D : va_G} {ad am : Nat → Nat} {cy : Nat → ClassId} {b bs L : Nat} {xs : Nat → Int32} {A : Nat → Prop} {σ μ : gMem} {n : Nat} (C : gC κ cL_law RL gLw 4 (gGL D ad am cy b) A room_1) (El : κ.2.1 = l) (hX : va_X bs L xs (gks κ) (gks κ).heap) (hbl : bs < (gks κ).heap.size) (hbA : ¬ A bs) (hGX : gInj (gGX D ad cy b)) (hGM : gInj (gGM D am cy b)) (hGL : gInj (gGL D ad am cy b)) (hL : L ≤ 384) (hn : n + 6 ≤ L) (hI : INV σ μ) (K : ∀ σ' μ', INV σ' μ' → wx κ (gGL D ad am cy b) A 4 (mrg σ' μ') 1269 [(3, .int (nI n)), (2, .ref (am 0)), (1, .ref (ad 0)), (0, .ref bs)] []) : wx κ (gGL D ad am cy b) A 4 (mrg σ μ) 1206 [(3, .int (nI n)), (2, .ref (am 0)), (1, .ref (ad 0)), (0, .ref bs)] [] := by
  obtain ⟨r, σ', μ', f1, f2, I'⟩ := p_copy hI (xs (n + 1)) (xs (n + 2)) (xs (n + 3)) (xs (n + 4)) (xs (n + 5))
  have KK := K σ' μ' I'
  refine x_aln C 2 rfl dL_law_1206 rfl ?_
  refine x_aln C 3 rfl dL_law_1207 rfl ?_
  refine x_iln C 0 rfl dL_law_1208 rfl ?_
  refine x_ic (v := 1) C (by decide) dL_law_1209 rfl ?_
  refine x_iadd C dL_law_1210 rfl ?_
  refine z_sld C hX hbl hbA (n := n + 1) (nI_add n 1) (by omega) (by omega) dL_law_1211 rfl ?_
  refine x_aln C 3 rfl dL_law_1212 rfl ?_
  refine x_iln C 0 rfl dL_law_1213 rfl ?_
  refine x_ic (v := 2) C (by decide) dL_law_1214 rfl ?_
  refine x_iadd C dL_law_1215 rfl ?_
  refine z_sld C hX hbl hbA (n := n + 2) (nI_add n 2) (by omega) (by omega) dL_law_1216 rfl ?_
  refine x_aln C 3 rfl dL_law_1217 rfl ?_
  refine x_iln C 0 rfl dL_law_1218 rfl ?_
  refine x_ic (v := 3) C (by decide) dL_law_1219 rfl ?_
  refine x_iadd C dL_law_1220 rfl ?_
  refine z_sld C hX hbl hbA (n := n + 3) (nI_add n 3) (by omega) (by omega) dL_law_1221 rfl ?_
  refine x_aln C 3 rfl dL_law_1222 rfl ?_
  refine x_iln C 0 rfl dL_law_1223 rfl ?_
  refine x_ic (v := 4) C (by decide) dL_law_1224 rfl ?_
  refine x_iadd C dL_law_1225 rfl ?_
  refine z_sld C hX hbl hbA (n := n + 4) (nI_add n 4) (by omega) (by omega) dL_law_1226 rfl ?_
  refine x_aln C 3 rfl dL_law_1227 rfl ?_
  refine x_iln C 0 rfl dL_law_1228 rfl ?_
  refine x_ic (v := 5) C (by decide) dL_law_1229 rfl ?_
  refine x_iadd C dL_law_1230 rfl ?_
  refine z_sld C hX hbl hbA (n := n + 5) (nI_add n 5) (by omega) (by omega) dL_law_1231 rfl ?_
  refine z_cX (As := [.int (xs (n + 1)), .int (xs (n + 2)), .int (xs (n + 3)), .int (xs (n + 4)), .int (xs (n + 5))]) (rest := []) C hGL El 5 (c_X6_copy hGX f1) (gBv km_L_149 kin_X6_copy ksel_X6_copy kini_X6 kc_X6_copy) rfl rfl rfl ⟨rfl, by decide +kernel, by decide +kernel, by decide +kernel⟩ ⟨Nat.le_of_ble_eq_true rfl, Nat.le_of_ble_eq_true rfl⟩ rfl rfl (Nat.le_of_ble_eq_true rfl) dL_law_1232 rfl ?_
  refine x_aln C 1 rfl dL_law_1235 rfl ?_
  refine x_aln C 3 rfl dL_law_1236 rfl ?_
  refine x_iln C 0 rfl dL_law_1237 rfl ?_
  refine x_ic (v := 1) C (by decide) dL_law_1238 rfl ?_
  refine x_iadd C dL_law_1239 rfl ?_
  refine z_sld C hX hbl hbA (n := n + 1) (nI_add n 1) (by omega) (by omega) dL_law_1240 rfl ?_
  refine x_aln C 3 rfl dL_law_1241 rfl ?_
  refine x_iln C 0 rfl dL_law_1242 rfl ?_
  refine x_ic (v := 2) C (by decide) dL_law_1243 rfl ?_
  refine x_iadd C dL_law_1244 rfl ?_
  refine z_sld C hX hbl hbA (n := n + 2) (nI_add n 2) (by omega) (by omega) dL_law_1245 rfl ?_
  refine x_aln C 3 rfl dL_law_1246 rfl ?_
  refine x_iln C 0 rfl dL_law_1247 rfl ?_
  refine x_ic (v := 3) C (by decide) dL_law_1248 rfl ?_
  refine x_iadd C dL_law_1249 rfl ?_
  refine z_sld C hX hbl hbA (n := n + 3) (nI_add n 3) (by omega) (by omega) dL_law_1250 rfl ?_
  refine x_aln C 3 rfl dL_law_1251 rfl ?_
  refine x_iln C 0 rfl dL_law_1252 rfl ?_
  refine x_ic (v := 4) C (by decide) dL_law_1253 rfl ?_
  refine x_iadd C dL_law_1254 rfl ?_
  refine z_sld C hX hbl hbA (n := n + 4) (nI_add n 4) (by omega) (by omega) dL_law_1255 rfl ?_
  refine x_aln C 3 rfl dL_law_1256 rfl ?_
  refine x_iln C 0 rfl dL_law_1257 rfl ?_
  refine x_ic (v := 5) C (by decide) dL_law_1258 rfl ?_
  refine x_iadd C dL_law_1259 rfl ?_
  refine z_sld C hX hbl hbA (n := n + 5) (nI_add n 5) (by omega) (by omega) dL_law_1260 rfl ?_
  refine z_cM (As := [.int (xs (n + 1)), .int (xs (n + 2)), .int (xs (n + 3)), .int (xs (n + 4)), .int (xs (n + 5))]) (rest := [.int r]) C hGL El 5 (c_X7_copy hGM f2) (gBv km_L_153 kin_X7_copy ksel_X7_copy kini_X7 kc_X7_copy) rfl rfl rfl ⟨rfl, by decide +kernel, by decide +kernel, by decide +kernel⟩ ⟨Nat.le_of_ble_eq_true rfl, Nat.le_of_ble_eq_true rfl⟩ rfl rfl (Nat.le_of_ble_eq_true rfl) dL_law_1261 rfl ?_
  exact x_ic_eq (tgt := 1269) C dL_law_1264 (by decide) rfl (fun _ => KK) (fun hc => absurd rfl hc)
