set_option maxRecDepth 20000 in
theorem lc_0 {X : jj_X} {EA EC EM : ev_E} {cells slots b L i g : Nat} {xs : Nat → Int32} {Q : State → Prop} {σc σm : st_S} (hc : Lc X code 4 RL) (hL : Lw X EA EC EM) (hX : va_X b L xs (xS X) (xS X).heap) (hbl : b < (xS X).heap.size) (hbA : ¬ eF EA b) (hi : i + 6 ≤ L) (hLL : L ≤ 3072) (hroom : cells + 10 ≤ (xR X).cells ∧ slots + 468 ≤ (xR X).slots) {R : st_S → st_S → Prop} (h : stp 0 (fun j => (xs (i + j)).toInt) σc σm R) (kk : ∀ τ υ, R τ υ → JP X (eF EA) (PL EC EM (g + 0) τ υ) 4 (cells + 0) (slots + 0) Q 1091 [(0, .ref b), (1, vR EC 0), (2, vR EM 0), (3, vI (i : Int))] []) : JP X (eF EA) (PL EC EM g σc σm) 4 cells slots Q 192 [(0, .ref b), (1, vR EC 0), (2, vR EM 0), (3, vI (i : Int))] [] := by
  replace h : wp_X10_person (xs (i + 1)).toInt (xs (i + 2)).toInt σc (fun r τ => wp_X11_person (xs (i + 1)).toInt (xs (i + 2)).toInt σm (fun r2 υ => r = r2 ∧ R τ υ)) := h
  refine p_aload_n hc 1 dL_law_192 rfl rfl ?_
  refine p_aload_n hc 0 dL_law_193 rfl rfl ?_
  refine p_iload_n hc 3 dL_law_194 rfl rfl ?_
  refine p_iconst hc dL_law_195 ?_
  refine p_iadd hc dL_law_196 ?_
  refine p_sldN (j := i + 1) hc hX hbl hbA (by rw [wr_id (by omega) (by omega)]; omega) (by omega) dL_law_197 ?_
  refine p_aload_n hc 0 dL_law_198 rfl rfl ?_
  refine p_iload_n hc 3 dL_law_199 rfl rfl ?_
  refine p_iconst hc dL_law_200 ?_
  refine p_iadd hc dL_law_201 ?_
  refine p_sldN (j := i + 2) hc hX hbl hbA (by rw [wr_id (by omega) (by omega)]; omega) (by omega) dL_law_202 ?_
  refine p_cC (As := [vI (xs (i + 1)).toInt, vI (xs (i + 2)).toInt]) hc hL ml_RL_13 mv_X10_person (c_X10_person hL.2.2.2.2.1 hL.2.2.2.2.2.2.2.2.2.1 (cn_i _) (cn_i _) h) rfl (by decide) (by decide) (by constructor <;> omega) (Nat.le_of_ble_eq_true rfl) rfl dL_law_203 (fun r1 τ cr1 h => ?_)
  refine p_aload_n hc 2 dL_law_206 rfl rfl ?_
  refine p_aload_n hc 0 dL_law_207 rfl rfl ?_
  refine p_iload_n hc 3 dL_law_208 rfl rfl ?_
  refine p_iconst hc dL_law_209 ?_
  refine p_iadd hc dL_law_210 ?_
  refine p_sldN (j := i + 1) hc hX hbl hbA (by rw [wr_id (by omega) (by omega)]; omega) (by omega) dL_law_211 ?_
  refine p_aload_n hc 0 dL_law_212 rfl rfl ?_
  refine p_iload_n hc 3 dL_law_213 rfl rfl ?_
  refine p_iconst hc dL_law_214 ?_
  refine p_iadd hc dL_law_215 ?_
  refine p_sldN (j := i + 2) hc hX hbl hbA (by rw [wr_id (by omega) (by omega)]; omega) (by omega) dL_law_216 ?_
  refine p_cM (As := [vI (xs (i + 1)).toInt, vI (xs (i + 2)).toInt]) hc hL ml_RL_17 mv_X11_person (fun o => c_X11_person (eok_eoS hL.2.2.2.2.2.1 o) hL.2.2.2.2.2.2.2.2.2.2.1 (cn_i _) (cn_i _) h) rfl (by decide) (by decide) (by constructor <;> omega) (Nat.le_of_ble_eq_true rfl) rfl dL_law_217 (fun r2 υ cr2 h => ?_)
  refine p_ic_eq (tgt := 1091) hc dL_law_220 (by decide) (by rw [h.1]) ?_
  exact kk τ υ h.2
set_option maxRecDepth 20000 in
theorem lc_1 {X : jj_X} {EA EC EM : ev_E} {cells slots b L i g : Nat} {xs : Nat → Int32} {Q : State → Prop} {σc σm : st_S} (hc : Lc X code 4 RL) (hL : Lw X EA EC EM) (hX : va_X b L xs (xS X) (xS X).heap) (hbl : b < (xS X).heap.size) (hbA : ¬ eF EA b) (hi : i + 6 ≤ L) (hLL : L ≤ 3072) (hroom : cells + 10 ≤ (xR X).cells ∧ slots + 468 ≤ (xR X).slots) {R : st_S → st_S → Prop} (h : stp 1 (fun j => (xs (i + j)).toInt) σc σm R) (kk : ∀ τ υ, R τ υ → JP X (eF EA) (PL EC EM (g + 0) τ υ) 4 (cells + 0) (slots + 0) Q 1091 [(0, .ref b), (1, vR EC 0), (2, vR EM 0), (3, vI (i : Int))] []) : JP X (eF EA) (PL EC EM g σc σm) 4 cells slots Q 225 [(0, .ref b), (1, vR EC 0), (2, vR EM 0), (3, vI (i : Int))] [] := by
  replace h : wp_X10_hear (xs (i + 1)).toInt (xs (i + 2)).toInt σc (fun r τ => wp_X11_hear (xs (i + 1)).toInt (xs (i + 2)).toInt σm (fun r2 υ => r = r2 ∧ R τ υ)) := h
  refine p_aload_n hc 1 dL_law_225 rfl rfl ?_
  refine p_aload_n hc 0 dL_law_226 rfl rfl ?_
  refine p_iload_n hc 3 dL_law_227 rfl rfl ?_
  refine p_iconst hc dL_law_228 ?_
  refine p_iadd hc dL_law_229 ?_
  refine p_sldN (j := i + 1) hc hX hbl hbA (by rw [wr_id (by omega) (by omega)]; omega) (by omega) dL_law_230 ?_
  refine p_aload_n hc 0 dL_law_231 rfl rfl ?_
  refine p_iload_n hc 3 dL_law_232 rfl rfl ?_
  refine p_iconst hc dL_law_233 ?_
  refine p_iadd hc dL_law_234 ?_
  refine p_sldN (j := i + 2) hc hX hbl hbA (by rw [wr_id (by omega) (by omega)]; omega) (by omega) dL_law_235 ?_
  refine p_cC (As := [vI (xs (i + 1)).toInt, vI (xs (i + 2)).toInt]) hc hL ml_RL_18 mv_X10_hear (c_X10_hear hL.2.2.2.2.1 hL.2.2.2.2.2.2.2.2.2.1 (cn_i _) (cn_i _) h) rfl (by decide) (by decide) (by constructor <;> omega) (Nat.le_of_ble_eq_true rfl) rfl dL_law_236 (fun r1 τ cr1 h => ?_)
  refine p_aload_n hc 2 dL_law_239 rfl rfl ?_
  refine p_aload_n hc 0 dL_law_240 rfl rfl ?_
  refine p_iload_n hc 3 dL_law_241 rfl rfl ?_
  refine p_iconst hc dL_law_242 ?_
  refine p_iadd hc dL_law_243 ?_
  refine p_sldN (j := i + 1) hc hX hbl hbA (by rw [wr_id (by omega) (by omega)]; omega) (by omega) dL_law_244 ?_
  refine p_aload_n hc 0 dL_law_245 rfl rfl ?_
  refine p_iload_n hc 3 dL_law_246 rfl rfl ?_
  refine p_iconst hc dL_law_247 ?_
  refine p_iadd hc dL_law_248 ?_
  refine p_sldN (j := i + 2) hc hX hbl hbA (by rw [wr_id (by omega) (by omega)]; omega) (by omega) dL_law_249 ?_
  refine p_cM (As := [vI (xs (i + 1)).toInt, vI (xs (i + 2)).toInt]) hc hL ml_RL_21 mv_X11_hear (fun o => c_X11_hear (eok_eoS hL.2.2.2.2.2.1 o) hL.2.2.2.2.2.2.2.2.2.2.1 (cn_i _) (cn_i _) h) rfl (by decide) (by decide) (by constructor <;> omega) (Nat.le_of_ble_eq_true rfl) rfl dL_law_250 (fun r2 υ cr2 h => ?_)
  refine p_ic_eq (tgt := 1091) hc dL_law_253 (by decide) (by rw [h.1]) ?_
  exact kk τ υ h.2
set_option maxRecDepth 20000 in
theorem lc_2 {X : jj_X} {EA EC EM : ev_E} {cells slots b L i g : Nat} {xs : Nat → Int32} {Q : State → Prop} {σc σm : st_S} (hc : Lc X code 4 RL) (hL : Lw X EA EC EM) (hX : va_X b L xs (xS X) (xS X).heap) (hbl : b < (xS X).heap.size) (hbA : ¬ eF EA b) (hi : i + 6 ≤ L) (hLL : L ≤ 3072) (hroom : cells + 10 ≤ (xR X).cells ∧ slots + 468 ≤ (xR X).slots) {R : st_S → st_S → Prop} (h : stp 2 (fun j => (xs (i + j)).toInt) σc σm R) (kk : ∀ τ υ, R τ υ → JP X (eF EA) (PL EC EM (g + 0) τ υ) 4 (cells + 0) (slots + 0) Q 1091 [(0, .ref b), (1, vR EC 0), (2, vR EM 0), (3, vI (i : Int))] []) : JP X (eF EA) (PL EC EM g σc σm) 4 cells slots Q 258 [(0, .ref b), (1, vR EC 0), (2, vR EM 0), (3, vI (i : Int))] [] := by
  replace h : wp_X10_of (xs (i + 1)).toInt (xs (i + 2)).toInt σc (fun r τ => wp_X11_of (xs (i + 1)).toInt (xs (i + 2)).toInt σm (fun r2 υ => r = r2 ∧ R τ υ)) := h
  refine p_aload_n hc 1 dL_law_258 rfl rfl ?_
  refine p_aload_n hc 0 dL_law_259 rfl rfl ?_
  refine p_iload_n hc 3 dL_law_260 rfl rfl ?_
  refine p_iconst hc dL_law_261 ?_
  refine p_iadd hc dL_law_262 ?_
  refine p_sldN (j := i + 1) hc hX hbl hbA (by rw [wr_id (by omega) (by omega)]; omega) (by omega) dL_law_263 ?_
  refine p_aload_n hc 0 dL_law_264 rfl rfl ?_
  refine p_iload_n hc 3 dL_law_265 rfl rfl ?_
  refine p_iconst hc dL_law_266 ?_
  refine p_iadd hc dL_law_267 ?_
  refine p_sldN (j := i + 2) hc hX hbl hbA (by rw [wr_id (by omega) (by omega)]; omega) (by omega) dL_law_268 ?_
  refine p_cC (As := [vI (xs (i + 1)).toInt, vI (xs (i + 2)).toInt]) hc hL ml_RL_22 mv_X10_of (c_X10_of hL.2.2.2.2.1 hL.2.2.2.2.2.2.2.2.2.1 (cn_i _) (cn_i _) h) rfl (by decide) (by decide) (by constructor <;> omega) (Nat.le_of_ble_eq_true rfl) rfl dL_law_269 (fun r1 τ cr1 h => ?_)
  refine p_aload_n hc 2 dL_law_272 rfl rfl ?_
  refine p_aload_n hc 0 dL_law_273 rfl rfl ?_
  refine p_iload_n hc 3 dL_law_274 rfl rfl ?_
  refine p_iconst hc dL_law_275 ?_
  refine p_iadd hc dL_law_276 ?_
  refine p_sldN (j := i + 1) hc hX hbl hbA (by rw [wr_id (by omega) (by omega)]; omega) (by omega) dL_law_277 ?_
  refine p_aload_n hc 0 dL_law_278 rfl rfl ?_
  refine p_iload_n hc 3 dL_law_279 rfl rfl ?_
  refine p_iconst hc dL_law_280 ?_
  refine p_iadd hc dL_law_281 ?_
  refine p_sldN (j := i + 2) hc hX hbl hbA (by rw [wr_id (by omega) (by omega)]; omega) (by omega) dL_law_282 ?_
  refine p_cM (As := [vI (xs (i + 1)).toInt, vI (xs (i + 2)).toInt]) hc hL ml_RL_25 mv_X11_of (fun o => c_X11_of (eok_eoS hL.2.2.2.2.2.1 o) hL.2.2.2.2.2.2.2.2.2.2.1 (cn_i _) (cn_i _) h) rfl (by decide) (by decide) (by constructor <;> omega) (Nat.le_of_ble_eq_true rfl) rfl dL_law_283 (fun r2 υ cr2 h => ?_)
  refine p_ic_eq (tgt := 1091) hc dL_law_286 (by decide) (by rw [h.1]) ?_
  exact kk τ υ h.2
set_option maxRecDepth 20000 in
theorem lc_3 {X : jj_X} {EA EC EM : ev_E} {cells slots b L i g : Nat} {xs : Nat → Int32} {Q : State → Prop} {σc σm : st_S} (hc : Lc X code 4 RL) (hL : Lw X EA EC EM) (hX : va_X b L xs (xS X) (xS X).heap) (hbl : b < (xS X).heap.size) (hbA : ¬ eF EA b) (hi : i + 6 ≤ L) (hLL : L ≤ 3072) (hroom : cells + 10 ≤ (xR X).cells ∧ slots + 468 ≤ (xR X).slots) {R : st_S → st_S → Prop} (h : stp 3 (fun j => (xs (i + j)).toInt) σc σm R) (kk : ∀ τ υ, R τ υ → JP X (eF EA) (PL EC EM (g + 0) τ υ) 4 (cells + 0) (slots + 0) Q 1091 [(0, .ref b), (1, vR EC 0), (2, vR EM 0), (3, vI (i : Int))] []) : JP X (eF EA) (PL EC EM g σc σm) 4 cells slots Q 291 [(0, .ref b), (1, vR EC 0), (2, vR EM 0), (3, vI (i : Int))] [] := by
  replace h : wp_X10_talk (xs (i + 1)).toInt (xs (i + 2)).toInt (xs (i + 3)).toInt σc (fun r τ => wp_X11_talk (xs (i + 1)).toInt (xs (i + 2)).toInt (xs (i + 3)).toInt σm (fun r2 υ => r = r2 ∧ R τ υ)) := h
  refine p_aload_n hc 1 dL_law_291 rfl rfl ?_
  refine p_aload_n hc 0 dL_law_292 rfl rfl ?_
  refine p_iload_n hc 3 dL_law_293 rfl rfl ?_
  refine p_iconst hc dL_law_294 ?_
  refine p_iadd hc dL_law_295 ?_
  refine p_sldN (j := i + 1) hc hX hbl hbA (by rw [wr_id (by omega) (by omega)]; omega) (by omega) dL_law_296 ?_
  refine p_aload_n hc 0 dL_law_297 rfl rfl ?_
  refine p_iload_n hc 3 dL_law_298 rfl rfl ?_
  refine p_iconst hc dL_law_299 ?_
  refine p_iadd hc dL_law_300 ?_
  refine p_sldN (j := i + 2) hc hX hbl hbA (by rw [wr_id (by omega) (by omega)]; omega) (by omega) dL_law_301 ?_
  refine p_aload_n hc 0 dL_law_302 rfl rfl ?_
  refine p_iload_n hc 3 dL_law_303 rfl rfl ?_
  refine p_iconst hc dL_law_304 ?_
  refine p_iadd hc dL_law_305 ?_
  refine p_sldN (j := i + 3) hc hX hbl hbA (by rw [wr_id (by omega) (by omega)]; omega) (by omega) dL_law_306 ?_
  refine p_cC (As := [vI (xs (i + 1)).toInt, vI (xs (i + 2)).toInt, vI (xs (i + 3)).toInt]) hc hL ml_RL_26 mv_X10_talk (c_X10_talk hL.2.2.2.2.1 hL.2.2.2.2.2.2.2.2.2.1 (cn_i _) (cn_i _) (cn_i _) h) rfl (by decide) (by decide) (by constructor <;> omega) (Nat.le_of_ble_eq_true rfl) rfl dL_law_307 (fun r1 τ cr1 h => ?_)
  refine p_aload_n hc 2 dL_law_310 rfl rfl ?_
  refine p_aload_n hc 0 dL_law_311 rfl rfl ?_
  refine p_iload_n hc 3 dL_law_312 rfl rfl ?_
  refine p_iconst hc dL_law_313 ?_
  refine p_iadd hc dL_law_314 ?_
  refine p_sldN (j := i + 1) hc hX hbl hbA (by rw [wr_id (by omega) (by omega)]; omega) (by omega) dL_law_315 ?_
  refine p_aload_n hc 0 dL_law_316 rfl rfl ?_
  refine p_iload_n hc 3 dL_law_317 rfl rfl ?_
  refine p_iconst hc dL_law_318 ?_
  refine p_iadd hc dL_law_319 ?_
  refine p_sldN (j := i + 2) hc hX hbl hbA (by rw [wr_id (by omega) (by omega)]; omega) (by omega) dL_law_320 ?_
  refine p_aload_n hc 0 dL_law_321 rfl rfl ?_
  refine p_iload_n hc 3 dL_law_322 rfl rfl ?_
  refine p_iconst hc dL_law_323 ?_
  refine p_iadd hc dL_law_324 ?_
  refine p_sldN (j := i + 3) hc hX hbl hbA (by rw [wr_id (by omega) (by omega)]; omega) (by omega) dL_law_325 ?_
  refine p_cM (As := [vI (xs (i + 1)).toInt, vI (xs (i + 2)).toInt, vI (xs (i + 3)).toInt]) hc hL ml_RL_30 mv_X11_talk (fun o => c_X11_talk (eok_eoS hL.2.2.2.2.2.1 o) hL.2.2.2.2.2.2.2.2.2.2.1 (cn_i _) (cn_i _) (cn_i _) h) rfl (by decide) (by decide) (by constructor <;> omega) (Nat.le_of_ble_eq_true rfl) rfl dL_law_326 (fun r2 υ cr2 h => ?_)
  refine p_ic_eq (tgt := 1091) hc dL_law_329 (by decide) (by rw [h.1]) ?_
  exact kk τ υ h.2
set_option maxRecDepth 20000 in
theorem lc_4 {X : jj_X} {EA EC EM : ev_E} {cells slots b L i g : Nat} {xs : Nat → Int32} {Q : State → Prop} {σc σm : st_S} (hc : Lc X code 4 RL) (hL : Lw X EA EC EM) (hX : va_X b L xs (xS X) (xS X).heap) (hbl : b < (xS X).heap.size) (hbA : ¬ eF EA b) (hi : i + 6 ≤ L) (hLL : L ≤ 3072) (hroom : cells + 10 ≤ (xR X).cells ∧ slots + 468 ≤ (xR X).slots) {R : st_S → st_S → Prop} (h : stp 4 (fun j => (xs (i + j)).toInt) σc σm R) (kk : ∀ τ υ, R τ υ → JP X (eF EA) (PL EC EM (g + 0) τ υ) 4 (cells + 0) (slots + 0) Q 1091 [(0, .ref b), (1, vR EC 0), (2, vR EM 0), (3, vI (i : Int))] []) : JP X (eF EA) (PL EC EM g σc σm) 4 cells slots Q 334 [(0, .ref b), (1, vR EC 0), (2, vR EM 0), (3, vI (i : Int))] [] := by
  replace h : wp_X10_fog (xs (i + 1)).toInt (xs (i + 2)).toInt σc (fun r τ => wp_X11_fog (xs (i + 1)).toInt (xs (i + 2)).toInt σm (fun r2 υ => r = r2 ∧ R τ υ)) := h
  refine p_aload_n hc 1 dL_law_334 rfl rfl ?_
  refine p_aload_n hc 0 dL_law_335 rfl rfl ?_
  refine p_iload_n hc 3 dL_law_336 rfl rfl ?_
  refine p_iconst hc dL_law_337 ?_
  refine p_iadd hc dL_law_338 ?_
  refine p_sldN (j := i + 1) hc hX hbl hbA (by rw [wr_id (by omega) (by omega)]; omega) (by omega) dL_law_339 ?_
  refine p_aload_n hc 0 dL_law_340 rfl rfl ?_
  refine p_iload_n hc 3 dL_law_341 rfl rfl ?_
  refine p_iconst hc dL_law_342 ?_
  refine p_iadd hc dL_law_343 ?_
  refine p_sldN (j := i + 2) hc hX hbl hbA (by rw [wr_id (by omega) (by omega)]; omega) (by omega) dL_law_344 ?_
  refine p_cC (As := [vI (xs (i + 1)).toInt, vI (xs (i + 2)).toInt]) hc hL ml_RL_31 mv_X10_fog (c_X10_fog hL.2.2.2.2.1 hL.2.2.2.2.2.2.2.2.2.1 (cn_i _) (cn_i _) h) rfl (by decide) (by decide) (by constructor <;> omega) (Nat.le_of_ble_eq_true rfl) rfl dL_law_345 (fun r1 τ cr1 h => ?_)
  refine p_aload_n hc 2 dL_law_348 rfl rfl ?_
  refine p_aload_n hc 0 dL_law_349 rfl rfl ?_
  refine p_iload_n hc 3 dL_law_350 rfl rfl ?_
  refine p_iconst hc dL_law_351 ?_
  refine p_iadd hc dL_law_352 ?_
  refine p_sldN (j := i + 1) hc hX hbl hbA (by rw [wr_id (by omega) (by omega)]; omega) (by omega) dL_law_353 ?_
  refine p_aload_n hc 0 dL_law_354 rfl rfl ?_
  refine p_iload_n hc 3 dL_law_355 rfl rfl ?_
  refine p_iconst hc dL_law_356 ?_
  refine p_iadd hc dL_law_357 ?_
  refine p_sldN (j := i + 2) hc hX hbl hbA (by rw [wr_id (by omega) (by omega)]; omega) (by omega) dL_law_358 ?_
  refine p_cM (As := [vI (xs (i + 1)).toInt, vI (xs (i + 2)).toInt]) hc hL ml_RL_34 mv_X11_fog (fun o => c_X11_fog (eok_eoS hL.2.2.2.2.2.1 o) hL.2.2.2.2.2.2.2.2.2.2.1 (cn_i _) (cn_i _) h) rfl (by decide) (by decide) (by constructor <;> omega) (Nat.le_of_ble_eq_true rfl) rfl dL_law_359 (fun r2 υ cr2 h => ?_)
  refine p_ic_eq (tgt := 1091) hc dL_law_362 (by decide) (by rw [h.1]) ?_
  exact kk τ υ h.2
set_option maxRecDepth 20000 in
theorem lc_5 {X : jj_X} {EA EC EM : ev_E} {cells slots b L i g : Nat} {xs : Nat → Int32} {Q : State → Prop} {σc σm : st_S} (hc : Lc X code 4 RL) (hL : Lw X EA EC EM) (hX : va_X b L xs (xS X) (xS X).heap) (hbl : b < (xS X).heap.size) (hbA : ¬ eF EA b) (hi : i + 6 ≤ L) (hLL : L ≤ 3072) (hroom : cells + 10 ≤ (xR X).cells ∧ slots + 468 ≤ (xR X).slots) {R : st_S → st_S → Prop} (h : stp 5 (fun j => (xs (i + j)).toInt) σc σm R) (kk : ∀ τ υ, R τ υ → JP X (eF EA) (PL EC EM (g + 0) τ υ) 4 (cells + 0) (slots + 0) Q 1091 [(0, .ref b), (1, vR EC 0), (2, vR EM 0), (3, vI (i : Int))] []) : JP X (eF EA) (PL EC EM g σc σm) 4 cells slots Q 367 [(0, .ref b), (1, vR EC 0), (2, vR EM 0), (3, vI (i : Int))] [] := by
  replace h : wp_X10_terms (xs (i + 1)).toInt (xs (i + 2)).toInt σc (fun r τ => wp_X11_terms (xs (i + 1)).toInt (xs (i + 2)).toInt σm (fun r2 υ => r = r2 ∧ R τ υ)) := h
  refine p_aload_n hc 1 dL_law_367 rfl rfl ?_
  refine p_aload_n hc 0 dL_law_368 rfl rfl ?_
  refine p_iload_n hc 3 dL_law_369 rfl rfl ?_
  refine p_iconst hc dL_law_370 ?_
  refine p_iadd hc dL_law_371 ?_
  refine p_sldN (j := i + 1) hc hX hbl hbA (by rw [wr_id (by omega) (by omega)]; omega) (by omega) dL_law_372 ?_
  refine p_aload_n hc 0 dL_law_373 rfl rfl ?_
  refine p_iload_n hc 3 dL_law_374 rfl rfl ?_
  refine p_iconst hc dL_law_375 ?_
  refine p_iadd hc dL_law_376 ?_
  refine p_sldN (j := i + 2) hc hX hbl hbA (by rw [wr_id (by omega) (by omega)]; omega) (by omega) dL_law_377 ?_
  refine p_cC (As := [vI (xs (i + 1)).toInt, vI (xs (i + 2)).toInt]) hc hL ml_RL_35 mv_X10_terms (c_X10_terms hL.2.2.2.2.1 hL.2.2.2.2.2.2.2.2.2.1 (cn_i _) (cn_i _) h) rfl (by decide) (by decide) (by constructor <;> omega) (Nat.le_of_ble_eq_true rfl) rfl dL_law_378 (fun r1 τ cr1 h => ?_)
  refine p_aload_n hc 2 dL_law_381 rfl rfl ?_
  refine p_aload_n hc 0 dL_law_382 rfl rfl ?_
  refine p_iload_n hc 3 dL_law_383 rfl rfl ?_
  refine p_iconst hc dL_law_384 ?_
  refine p_iadd hc dL_law_385 ?_
  refine p_sldN (j := i + 1) hc hX hbl hbA (by rw [wr_id (by omega) (by omega)]; omega) (by omega) dL_law_386 ?_
  refine p_aload_n hc 0 dL_law_387 rfl rfl ?_
  refine p_iload_n hc 3 dL_law_388 rfl rfl ?_
  refine p_iconst hc dL_law_389 ?_
  refine p_iadd hc dL_law_390 ?_
  refine p_sldN (j := i + 2) hc hX hbl hbA (by rw [wr_id (by omega) (by omega)]; omega) (by omega) dL_law_391 ?_
  refine p_cM (As := [vI (xs (i + 1)).toInt, vI (xs (i + 2)).toInt]) hc hL ml_RL_38 mv_X11_terms (fun o => c_X11_terms (eok_eoS hL.2.2.2.2.2.1 o) hL.2.2.2.2.2.2.2.2.2.2.1 (cn_i _) (cn_i _) h) rfl (by decide) (by decide) (by constructor <;> omega) (Nat.le_of_ble_eq_true rfl) rfl dL_law_392 (fun r2 υ cr2 h => ?_)
  refine p_ic_eq (tgt := 1091) hc dL_law_395 (by decide) (by rw [h.1]) ?_
  exact kk τ υ h.2
set_option maxRecDepth 20000 in
theorem lc_6 {X : jj_X} {EA EC EM : ev_E} {cells slots b L i g : Nat} {xs : Nat → Int32} {Q : State → Prop} {σc σm : st_S} (hc : Lc X code 4 RL) (hL : Lw X EA EC EM) (hX : va_X b L xs (xS X) (xS X).heap) (hbl : b < (xS X).heap.size) (hbA : ¬ eF EA b) (hi : i + 6 ≤ L) (hLL : L ≤ 3072) (hroom : cells + 10 ≤ (xR X).cells ∧ slots + 468 ≤ (xR X).slots) {R : st_S → st_S → Prop} (h : stp 6 (fun j => (xs (i + j)).toInt) σc σm R) (kk : ∀ τ υ, R τ υ → JP X (eF EA) (PL EC EM (g + 0) τ υ) 4 (cells + 0) (slots + 0) Q 1091 [(0, .ref b), (1, vR EC 0), (2, vR EM 0), (3, vI (i : Int))] []) : JP X (eF EA) (PL EC EM g σc σm) 4 cells slots Q 400 [(0, .ref b), (1, vR EC 0), (2, vR EM 0), (3, vI (i : Int))] [] := by
  replace h : wp_X10_feed (xs (i + 1)).toInt (xs (i + 2)).toInt (xs (i + 3)).toInt (xs (i + 4)).toInt (xs (i + 5)).toInt σc (fun r τ => wp_X11_feed (xs (i + 1)).toInt (xs (i + 2)).toInt (xs (i + 3)).toInt (xs (i + 4)).toInt (xs (i + 5)).toInt σm (fun r2 υ => r = r2 ∧ R τ υ)) := h
  refine p_aload_n hc 1 dL_law_400 rfl rfl ?_
  refine p_aload_n hc 0 dL_law_401 rfl rfl ?_
  refine p_iload_n hc 3 dL_law_402 rfl rfl ?_
  refine p_iconst hc dL_law_403 ?_
  refine p_iadd hc dL_law_404 ?_
  refine p_sldN (j := i + 1) hc hX hbl hbA (by rw [wr_id (by omega) (by omega)]; omega) (by omega) dL_law_405 ?_
  refine p_aload_n hc 0 dL_law_406 rfl rfl ?_
  refine p_iload_n hc 3 dL_law_407 rfl rfl ?_
  refine p_iconst hc dL_law_408 ?_
  refine p_iadd hc dL_law_409 ?_
  refine p_sldN (j := i + 2) hc hX hbl hbA (by rw [wr_id (by omega) (by omega)]; omega) (by omega) dL_law_410 ?_
  refine p_aload_n hc 0 dL_law_411 rfl rfl ?_
  refine p_iload_n hc 3 dL_law_412 rfl rfl ?_
  refine p_iconst hc dL_law_413 ?_
  refine p_iadd hc dL_law_414 ?_
  refine p_sldN (j := i + 3) hc hX hbl hbA (by rw [wr_id (by omega) (by omega)]; omega) (by omega) dL_law_415 ?_
  refine p_aload_n hc 0 dL_law_416 rfl rfl ?_
  refine p_iload_n hc 3 dL_law_417 rfl rfl ?_
  refine p_iconst hc dL_law_418 ?_
  refine p_iadd hc dL_law_419 ?_
  refine p_sldN (j := i + 4) hc hX hbl hbA (by rw [wr_id (by omega) (by omega)]; omega) (by omega) dL_law_420 ?_
  refine p_aload_n hc 0 dL_law_421 rfl rfl ?_
  refine p_iload_n hc 3 dL_law_422 rfl rfl ?_
  refine p_iconst hc dL_law_423 ?_
  refine p_iadd hc dL_law_424 ?_
  refine p_sldN (j := i + 5) hc hX hbl hbA (by rw [wr_id (by omega) (by omega)]; omega) (by omega) dL_law_425 ?_
  refine p_cC (As := [vI (xs (i + 1)).toInt, vI (xs (i + 2)).toInt, vI (xs (i + 3)).toInt, vI (xs (i + 4)).toInt, vI (xs (i + 5)).toInt]) hc hL ml_RL_39 mv_X10_feed (c_X10_feed hL.2.2.2.2.1 hL.2.2.2.2.2.2.2.2.2.1 (cn_i _) (cn_i _) (cn_i _) (cn_i _) (cn_i _) h) rfl (by decide) (by decide) (by constructor <;> omega) (Nat.le_of_ble_eq_true rfl) rfl dL_law_426 (fun r1 τ cr1 h => ?_)
  refine p_aload_n hc 2 dL_law_429 rfl rfl ?_
  refine p_aload_n hc 0 dL_law_430 rfl rfl ?_
  refine p_iload_n hc 3 dL_law_431 rfl rfl ?_
  refine p_iconst hc dL_law_432 ?_
  refine p_iadd hc dL_law_433 ?_
  refine p_sldN (j := i + 1) hc hX hbl hbA (by rw [wr_id (by omega) (by omega)]; omega) (by omega) dL_law_434 ?_
  refine p_aload_n hc 0 dL_law_435 rfl rfl ?_
  refine p_iload_n hc 3 dL_law_436 rfl rfl ?_
  refine p_iconst hc dL_law_437 ?_
  refine p_iadd hc dL_law_438 ?_
  refine p_sldN (j := i + 2) hc hX hbl hbA (by rw [wr_id (by omega) (by omega)]; omega) (by omega) dL_law_439 ?_
  refine p_aload_n hc 0 dL_law_440 rfl rfl ?_
  refine p_iload_n hc 3 dL_law_441 rfl rfl ?_
  refine p_iconst hc dL_law_442 ?_
  refine p_iadd hc dL_law_443 ?_
  refine p_sldN (j := i + 3) hc hX hbl hbA (by rw [wr_id (by omega) (by omega)]; omega) (by omega) dL_law_444 ?_
  refine p_aload_n hc 0 dL_law_445 rfl rfl ?_
  refine p_iload_n hc 3 dL_law_446 rfl rfl ?_
  refine p_iconst hc dL_law_447 ?_
  refine p_iadd hc dL_law_448 ?_
  refine p_sldN (j := i + 4) hc hX hbl hbA (by rw [wr_id (by omega) (by omega)]; omega) (by omega) dL_law_449 ?_
  refine p_aload_n hc 0 dL_law_450 rfl rfl ?_
  refine p_iload_n hc 3 dL_law_451 rfl rfl ?_
  refine p_iconst hc dL_law_452 ?_
  refine p_iadd hc dL_law_453 ?_
  refine p_sldN (j := i + 5) hc hX hbl hbA (by rw [wr_id (by omega) (by omega)]; omega) (by omega) dL_law_454 ?_
  refine p_cM (As := [vI (xs (i + 1)).toInt, vI (xs (i + 2)).toInt, vI (xs (i + 3)).toInt, vI (xs (i + 4)).toInt, vI (xs (i + 5)).toInt]) hc hL ml_RL_43 mv_X11_feed (fun o => c_X11_feed (eok_eoS hL.2.2.2.2.2.1 o) hL.2.2.2.2.2.2.2.2.2.2.1 (cn_i _) (cn_i _) (cn_i _) (cn_i _) (cn_i _) h) rfl (by decide) (by decide) (by constructor <;> omega) (Nat.le_of_ble_eq_true rfl) rfl dL_law_455 (fun r2 υ cr2 h => ?_)
  refine p_ic_eq (tgt := 1091) hc dL_law_458 (by decide) (by rw [h.1]) ?_
  exact kk τ υ h.2
set_option maxRecDepth 20000 in
theorem lc_7 {X : jj_X} {EA EC EM : ev_E} {cells slots b L i g : Nat} {xs : Nat → Int32} {Q : State → Prop} {σc σm : st_S} (hc : Lc X code 4 RL) (hL : Lw X EA EC EM) (hX : va_X b L xs (xS X) (xS X).heap) (hbl : b < (xS X).heap.size) (hbA : ¬ eF EA b) (hi : i + 6 ≤ L) (hLL : L ≤ 3072) (hroom : cells + 10 ≤ (xR X).cells ∧ slots + 468 ≤ (xR X).slots) {R : st_S → st_S → Prop} (h : stp 7 (fun j => (xs (i + j)).toInt) σc σm R) (kk : ∀ τ υ, R τ υ → JP X (eF EA) (PL EC EM (g + 0) τ υ) 4 (cells + 0) (slots + 0) Q 1091 [(0, .ref b), (1, vR EC 0), (2, vR EM 0), (3, vI (i : Int))] []) : JP X (eF EA) (PL EC EM g σc σm) 4 cells slots Q 463 [(0, .ref b), (1, vR EC 0), (2, vR EM 0), (3, vI (i : Int))] [] := by
  replace h : wp_X10_end (xs (i + 1)).toInt σc (fun r τ => wp_X11_end (xs (i + 1)).toInt σm (fun r2 υ => r = r2 ∧ R τ υ)) := h
  refine p_aload_n hc 1 dL_law_463 rfl rfl ?_
  refine p_aload_n hc 0 dL_law_464 rfl rfl ?_
  refine p_iload_n hc 3 dL_law_465 rfl rfl ?_
  refine p_iconst hc dL_law_466 ?_
  refine p_iadd hc dL_law_467 ?_
  refine p_sldN (j := i + 1) hc hX hbl hbA (by rw [wr_id (by omega) (by omega)]; omega) (by omega) dL_law_468 ?_
  refine p_cC (As := [vI (xs (i + 1)).toInt]) hc hL ml_RL_44 mv_X10_end (c_X10_end hL.2.2.2.2.1 hL.2.2.2.2.2.2.2.2.2.1 (cn_i _) h) rfl (by decide) (by decide) (by constructor <;> omega) (Nat.le_of_ble_eq_true rfl) rfl dL_law_469 (fun r1 τ cr1 h => ?_)
  refine p_aload_n hc 2 dL_law_472 rfl rfl ?_
  refine p_aload_n hc 0 dL_law_473 rfl rfl ?_
  refine p_iload_n hc 3 dL_law_474 rfl rfl ?_
  refine p_iconst hc dL_law_475 ?_
  refine p_iadd hc dL_law_476 ?_
  refine p_sldN (j := i + 1) hc hX hbl hbA (by rw [wr_id (by omega) (by omega)]; omega) (by omega) dL_law_477 ?_
  refine p_cM (As := [vI (xs (i + 1)).toInt]) hc hL ml_RL_48 mv_X11_end (fun o => c_X11_end (eok_eoS hL.2.2.2.2.2.1 o) hL.2.2.2.2.2.2.2.2.2.2.1 (cn_i _) h) rfl (by decide) (by decide) (by constructor <;> omega) (Nat.le_of_ble_eq_true rfl) rfl dL_law_478 (fun r2 υ cr2 h => ?_)
  refine p_ic_eq (tgt := 1091) hc dL_law_481 (by decide) (by rw [h.1]) ?_
  exact kk τ υ h.2
set_option maxRecDepth 20000 in
theorem lc_8 {X : jj_X} {EA EC EM : ev_E} {cells slots b L i g : Nat} {xs : Nat → Int32} {Q : State → Prop} {σc σm : st_S} (hc : Lc X code 4 RL) (hL : Lw X EA EC EM) (hX : va_X b L xs (xS X) (xS X).heap) (hbl : b < (xS X).heap.size) (hbA : ¬ eF EA b) (hi : i + 6 ≤ L) (hLL : L ≤ 3072) (hroom : cells + 10 ≤ (xR X).cells ∧ slots + 468 ≤ (xR X).slots) {R : st_S → st_S → Prop} (h : stp 8 (fun j => (xs (i + j)).toInt) σc σm R) (kk : ∀ τ υ, R τ υ → JP X (eF EA) (PL EC EM (g + 0) τ υ) 4 (cells + 0) (slots + 0) Q 1091 [(0, .ref b), (1, vR EC 0), (2, vR EM 0), (3, vI (i : Int))] []) : JP X (eF EA) (PL EC EM g σc σm) 4 cells slots Q 486 [(0, .ref b), (1, vR EC 0), (2, vR EM 0), (3, vI (i : Int))] [] := by
  replace h : wp_X10_row  σc (fun r τ => wp_X11_row  σm (fun r2 υ => r = r2 ∧ R τ υ)) := h
  refine p_aload_n hc 1 dL_law_486 rfl rfl ?_
  refine p_cC (As := []) hc hL ml_RL_49 mv_X10_row (c_X10_row hL.2.2.2.2.1 hL.2.2.2.2.2.2.2.2.2.1  h) rfl (by decide) (by decide) (by constructor <;> omega) (Nat.le_of_ble_eq_true rfl) rfl dL_law_487 (fun r1 τ cr1 h => ?_)
  refine p_aload_n hc 2 dL_law_490 rfl rfl ?_
  refine p_cM (As := []) hc hL ml_RL_53 mv_X11_row (fun o => c_X11_row (eok_eoS hL.2.2.2.2.2.1 o) hL.2.2.2.2.2.2.2.2.2.2.1  h) rfl (by decide) (by decide) (by constructor <;> omega) (Nat.le_of_ble_eq_true rfl) rfl dL_law_491 (fun r2 υ cr2 h => ?_)
  refine p_ic_eq (tgt := 1091) hc dL_law_494 (by decide) (by rw [h.1]) ?_
  exact kk τ υ h.2
set_option maxRecDepth 20000 in
theorem lc_9 {X : jj_X} {EA EC EM : ev_E} {cells slots b L i g : Nat} {xs : Nat → Int32} {Q : State → Prop} {σc σm : st_S} (hc : Lc X code 4 RL) (hL : Lw X EA EC EM) (hX : va_X b L xs (xS X) (xS X).heap) (hbl : b < (xS X).heap.size) (hbA : ¬ eF EA b) (hi : i + 6 ≤ L) (hLL : L ≤ 3072) (hroom : cells + 10 ≤ (xR X).cells ∧ slots + 468 ≤ (xR X).slots) {R : st_S → st_S → Prop} (h : stp 9 (fun j => (xs (i + j)).toInt) σc σm R) (kk : ∀ τ υ, R τ υ → JP X (eF EA) (PL EC EM (g + 0) τ υ) 4 (cells + 0) (slots + 0) Q 1091 [(0, .ref b), (1, vR EC 0), (2, vR EM 0), (3, vI (i : Int))] []) : JP X (eF EA) (PL EC EM g σc σm) 4 cells slots Q 499 [(0, .ref b), (1, vR EC 0), (2, vR EM 0), (3, vI (i : Int))] [] := by
  replace h : wp_X10_salt  σc (fun r τ => wp_X11_salt  σm (fun r2 υ => r = r2 ∧ R τ υ)) := h
  refine p_aload_n hc 1 dL_law_499 rfl rfl ?_
  refine p_cC (As := []) hc hL ml_RL_54 mv_X10_salt (c_X10_salt hL.2.2.2.2.1 hL.2.2.2.2.2.2.2.2.2.1  h) rfl (by decide) (by decide) (by constructor <;> omega) (Nat.le_of_ble_eq_true rfl) rfl dL_law_500 (fun r1 τ cr1 h => ?_)
  refine p_aload_n hc 2 dL_law_503 rfl rfl ?_
  refine p_cM (As := []) hc hL ml_RL_57 mv_X11_salt (fun o => c_X11_salt (eok_eoS hL.2.2.2.2.2.1 o) hL.2.2.2.2.2.2.2.2.2.2.1  h) rfl (by decide) (by decide) (by constructor <;> omega) (Nat.le_of_ble_eq_true rfl) rfl dL_law_504 (fun r2 υ cr2 h => ?_)
  refine p_ic_eq (tgt := 1091) hc dL_law_507 (by decide) (by rw [h.1]) ?_
  exact kk τ υ h.2
set_option maxRecDepth 20000 in
theorem lc_10 {X : jj_X} {EA EC EM : ev_E} {cells slots b L i g : Nat} {xs : Nat → Int32} {Q : State → Prop} {σc σm : st_S} (hc : Lc X code 4 RL) (hL : Lw X EA EC EM) (hX : va_X b L xs (xS X) (xS X).heap) (hbl : b < (xS X).heap.size) (hbA : ¬ eF EA b) (hi : i + 6 ≤ L) (hLL : L ≤ 3072) (hroom : cells + 10 ≤ (xR X).cells ∧ slots + 468 ≤ (xR X).slots) (hg : g + 10 < 1000000) (hMk : MkE EC (gN σc)) {R : st_S → st_S → Prop} (h : stp 10 (fun j => (xs (i + j)).toInt) σc σm R) (kk : ∀ τ υ, gN σc ≤ gN τ → R τ υ → JP X (eF EA) (PL EC EM (g + 7) τ υ) 4 (cells + 7) (slots + 468) Q 1091 [(0, .ref b), (1, vR EC 0), (2, vR EM 0), (3, vI (i : Int))] []) : JP X (eF EA) (PL EC EM g σc σm) 4 cells slots Q 512 [(0, .ref b), (1, vR EC 0), (2, vR EM 0), (3, vI (i : Int))] [] := by
  replace h : wp_X10_law  σc (fun r τ => wp_X11_law  σm (fun r2 υ => r = r2 ∧ R τ υ)) := h
  refine p_aload_n hc 1 dL_law_512 rfl rfl ?_
  refine p_cCX (mc := 7) (ms := 468) (As := []) hc hL ml_RL_58 mv_X10_law (c_X10_law hL.2.2.2.2.1 hL.2.2.2.2.2.2.2.2.2.1 hMk  h) rfl (by decide) (by decide) (by omega) (by constructor <;> omega) (Nat.le_of_ble_eq_true rfl) rfl dL_law_513 (fun r1 τ cr1 hgn h => ?_)
  refine p_aload_n hc 2 dL_law_516 rfl rfl ?_
  refine p_cM (As := []) hc hL ml_RL_61 mv_X11_law (fun o => c_X11_law (eok_eoS hL.2.2.2.2.2.1 o) hL.2.2.2.2.2.2.2.2.2.2.1  h) rfl (by decide) (by decide) (by constructor <;> omega) (Nat.le_of_ble_eq_true rfl) rfl dL_law_517 (fun r2 υ cr2 h => ?_)
  refine p_ic_eq (tgt := 1091) hc dL_law_520 (by decide) (by rw [h.1]) ?_
  exact kk τ υ hgn h.2
set_option maxRecDepth 20000 in
theorem lc_11 {X : jj_X} {EA EC EM : ev_E} {cells slots b L i g : Nat} {xs : Nat → Int32} {Q : State → Prop} {σc σm : st_S} (hc : Lc X code 4 RL) (hL : Lw X EA EC EM) (hX : va_X b L xs (xS X) (xS X).heap) (hbl : b < (xS X).heap.size) (hbA : ¬ eF EA b) (hi : i + 6 ≤ L) (hLL : L ≤ 3072) (hroom : cells + 10 ≤ (xR X).cells ∧ slots + 468 ≤ (xR X).slots) {R : st_S → st_S → Prop} (h : stp 11 (fun j => (xs (i + j)).toInt) σc σm R) (kk : ∀ τ υ, R τ υ → JP X (eF EA) (PL EC EM (g + 0) τ υ) 4 (cells + 0) (slots + 0) Q 1091 [(0, .ref b), (1, vR EC 0), (2, vR EM 0), (3, vI (i : Int))] []) : JP X (eF EA) (PL EC EM g σc σm) 4 cells slots Q 525 [(0, .ref b), (1, vR EC 0), (2, vR EM 0), (3, vI (i : Int))] [] := by
  replace h : wp_X10_orders  σc (fun r τ => wp_X11_orders  σm (fun r2 υ => r = r2 ∧ R τ υ)) := h
  refine p_aload_n hc 1 dL_law_525 rfl rfl ?_
  refine p_cC (As := []) hc hL ml_RL_62 mv_X10_orders (c_X10_orders hL.2.2.2.2.1 hL.2.2.2.2.2.2.2.2.2.1  h) rfl (by decide) (by decide) (by constructor <;> omega) (Nat.le_of_ble_eq_true rfl) rfl dL_law_526 (fun r1 τ cr1 h => ?_)
  refine p_aload_n hc 2 dL_law_529 rfl rfl ?_
  refine p_cM (As := []) hc hL ml_RL_65 mv_X11_orders (fun o => c_X11_orders (eok_eoS hL.2.2.2.2.2.1 o) hL.2.2.2.2.2.2.2.2.2.2.1  h) rfl (by decide) (by decide) (by constructor <;> omega) (Nat.le_of_ble_eq_true rfl) rfl dL_law_530 (fun r2 υ cr2 h => ?_)
  refine p_ic_eq (tgt := 1091) hc dL_law_533 (by decide) (by rw [h.1]) ?_
  exact kk τ υ h.2
set_option maxRecDepth 20000 in
theorem lc_12 {X : jj_X} {EA EC EM : ev_E} {cells slots b L i g : Nat} {xs : Nat → Int32} {Q : State → Prop} {σc σm : st_S} (hc : Lc X code 4 RL) (hL : Lw X EA EC EM) (hX : va_X b L xs (xS X) (xS X).heap) (hbl : b < (xS X).heap.size) (hbA : ¬ eF EA b) (hi : i + 6 ≤ L) (hLL : L ≤ 3072) (hroom : cells + 10 ≤ (xR X).cells ∧ slots + 468 ≤ (xR X).slots) {R : st_S → st_S → Prop} (h : stp 12 (fun j => (xs (i + j)).toInt) σc σm R) (kk : ∀ τ υ, R τ υ → JP X (eF EA) (PL EC EM (g + 0) τ υ) 4 (cells + 0) (slots + 0) Q 1091 [(0, .ref b), (1, vR EC 0), (2, vR EM 0), (3, vI (i : Int))] []) : JP X (eF EA) (PL EC EM g σc σm) 4 cells slots Q 538 [(0, .ref b), (1, vR EC 0), (2, vR EM 0), (3, vI (i : Int))] [] := by
  replace h : wp_X10_fault  σc (fun r τ => wp_X11_fault  σm (fun r2 υ => r = r2 ∧ R τ υ)) := h
  refine p_aload_n hc 1 dL_law_538 rfl rfl ?_
  refine p_cC (As := []) hc hL ml_RL_66 mv_X10_fault (c_X10_fault hL.2.2.2.2.1 hL.2.2.2.2.2.2.2.2.2.1  h) rfl (by decide) (by decide) (by constructor <;> omega) (Nat.le_of_ble_eq_true rfl) rfl dL_law_539 (fun r1 τ cr1 h => ?_)
  refine p_aload_n hc 2 dL_law_542 rfl rfl ?_
  refine p_cM (As := []) hc hL ml_RL_69 mv_X11_fault (fun o => c_X11_fault (eok_eoS hL.2.2.2.2.2.1 o) hL.2.2.2.2.2.2.2.2.2.2.1  h) rfl (by decide) (by decide) (by constructor <;> omega) (Nat.le_of_ble_eq_true rfl) rfl dL_law_543 (fun r2 υ cr2 h => ?_)
  refine p_ic_eq (tgt := 1091) hc dL_law_546 (by decide) (by rw [h.1]) ?_
  exact kk τ υ h.2
set_option maxRecDepth 20000 in
theorem lc_13 {X : jj_X} {EA EC EM : ev_E} {cells slots b L i g : Nat} {xs : Nat → Int32} {Q : State → Prop} {σc σm : st_S} (hc : Lc X code 4 RL) (hL : Lw X EA EC EM) (hX : va_X b L xs (xS X) (xS X).heap) (hbl : b < (xS X).heap.size) (hbA : ¬ eF EA b) (hi : i + 6 ≤ L) (hLL : L ≤ 3072) (hroom : cells + 10 ≤ (xR X).cells ∧ slots + 468 ≤ (xR X).slots) {R : st_S → st_S → Prop} (h : stp 13 (fun j => (xs (i + j)).toInt) σc σm R) (kk : ∀ τ υ, R τ υ → JP X (eF EA) (PL EC EM (g + 0) τ υ) 4 (cells + 0) (slots + 0) Q 1091 [(0, .ref b), (1, vR EC 0), (2, vR EM 0), (3, vI (i : Int))] []) : JP X (eF EA) (PL EC EM g σc σm) 4 cells slots Q 551 [(0, .ref b), (1, vR EC 0), (2, vR EM 0), (3, vI (i : Int))] [] := by
  replace h : wp_X10_stopped  σc (fun r τ => wp_X11_stopped  σm (fun r2 υ => r = r2 ∧ R τ υ)) := h
  refine p_aload_n hc 1 dL_law_551 rfl rfl ?_
  refine p_cC (As := []) hc hL ml_RL_70 mv_X10_stopped (c_X10_stopped hL.2.2.2.2.1 hL.2.2.2.2.2.2.2.2.2.1  h) rfl (by decide) (by decide) (by constructor <;> omega) (Nat.le_of_ble_eq_true rfl) rfl dL_law_552 (fun r1 τ cr1 h => ?_)
  refine p_aload_n hc 2 dL_law_555 rfl rfl ?_
  refine p_cM (As := []) hc hL ml_RL_73 mv_X11_stopped (fun o => c_X11_stopped (eok_eoS hL.2.2.2.2.2.1 o) hL.2.2.2.2.2.2.2.2.2.2.1  h) rfl (by decide) (by decide) (by constructor <;> omega) (Nat.le_of_ble_eq_true rfl) rfl dL_law_556 (fun r2 υ cr2 h => ?_)
  refine p_ic_eq (tgt := 1091) hc dL_law_559 (by decide) (by rw [h.1]) ?_
  exact kk τ υ h.2
set_option maxRecDepth 20000 in
theorem lc_14 {X : jj_X} {EA EC EM : ev_E} {cells slots b L i g : Nat} {xs : Nat → Int32} {Q : State → Prop} {σc σm : st_S} (hc : Lc X code 4 RL) (hL : Lw X EA EC EM) (hX : va_X b L xs (xS X) (xS X).heap) (hbl : b < (xS X).heap.size) (hbA : ¬ eF EA b) (hi : i + 6 ≤ L) (hLL : L ≤ 3072) (hroom : cells + 10 ≤ (xR X).cells ∧ slots + 468 ≤ (xR X).slots) {R : st_S → st_S → Prop} (h : stp 14 (fun j => (xs (i + j)).toInt) σc σm R) (kk : ∀ τ υ, R τ υ → JP X (eF EA) (PL EC EM (g + 0) τ υ) 4 (cells + 0) (slots + 0) Q 1091 [(0, .ref b), (1, vR EC 0), (2, vR EM 0), (3, vI (i : Int))] []) : JP X (eF EA) (PL EC EM g σc σm) 4 cells slots Q 564 [(0, .ref b), (1, vR EC 0), (2, vR EM 0), (3, vI (i : Int))] [] := by
  replace h : wp_X10_force (xs (i + 1)).toInt σc (fun r τ => wp_X11_force (xs (i + 1)).toInt σm (fun r2 υ => r = r2 ∧ R τ υ)) := h
  refine p_aload_n hc 1 dL_law_564 rfl rfl ?_
  refine p_aload_n hc 0 dL_law_565 rfl rfl ?_
  refine p_iload_n hc 3 dL_law_566 rfl rfl ?_
  refine p_iconst hc dL_law_567 ?_
  refine p_iadd hc dL_law_568 ?_
  refine p_sldN (j := i + 1) hc hX hbl hbA (by rw [wr_id (by omega) (by omega)]; omega) (by omega) dL_law_569 ?_
  refine p_cC (As := [vI (xs (i + 1)).toInt]) hc hL ml_RL_74 mv_X10_force (c_X10_force hL.2.2.2.2.1 hL.2.2.2.2.2.2.2.2.2.1 (cn_i _) h) rfl (by decide) (by decide) (by constructor <;> omega) (Nat.le_of_ble_eq_true rfl) rfl dL_law_570 (fun r1 τ cr1 h => ?_)
  refine p_aload_n hc 2 dL_law_573 rfl rfl ?_
  refine p_aload_n hc 0 dL_law_574 rfl rfl ?_
  refine p_iload_n hc 3 dL_law_575 rfl rfl ?_
  refine p_iconst hc dL_law_576 ?_
  refine p_iadd hc dL_law_577 ?_
  refine p_sldN (j := i + 1) hc hX hbl hbA (by rw [wr_id (by omega) (by omega)]; omega) (by omega) dL_law_578 ?_
  refine p_cM (As := [vI (xs (i + 1)).toInt]) hc hL ml_RL_77 mv_X11_force (fun o => c_X11_force (eok_eoS hL.2.2.2.2.2.1 o) hL.2.2.2.2.2.2.2.2.2.2.1 (cn_i _) h) rfl (by decide) (by decide) (by constructor <;> omega) (Nat.le_of_ble_eq_true rfl) rfl dL_law_579 (fun r2 υ cr2 h => ?_)
  refine p_ic_eq (tgt := 1091) hc dL_law_582 (by decide) (by rw [h.1]) ?_
  exact kk τ υ h.2
set_option maxRecDepth 20000 in
theorem lc_15 {X : jj_X} {EA EC EM : ev_E} {cells slots b L i g : Nat} {xs : Nat → Int32} {Q : State → Prop} {σc σm : st_S} (hc : Lc X code 4 RL) (hL : Lw X EA EC EM) (hX : va_X b L xs (xS X) (xS X).heap) (hbl : b < (xS X).heap.size) (hbA : ¬ eF EA b) (hi : i + 6 ≤ L) (hLL : L ≤ 3072) (hroom : cells + 10 ≤ (xR X).cells ∧ slots + 468 ≤ (xR X).slots) {R : st_S → st_S → Prop} (h : stp 15 (fun j => (xs (i + j)).toInt) σc σm R) (kk : ∀ τ υ, R τ υ → JP X (eF EA) (PL EC EM (g + 0) τ υ) 4 (cells + 0) (slots + 0) Q 1091 [(0, .ref b), (1, vR EC 0), (2, vR EM 0), (3, vI (i : Int))] []) : JP X (eF EA) (PL EC EM g σc σm) 4 cells slots Q 587 [(0, .ref b), (1, vR EC 0), (2, vR EM 0), (3, vI (i : Int))] [] := by
  replace h : wp_X10_asks (xs (i + 1)).toInt (xs (i + 2)).toInt (xs (i + 3)).toInt σc (fun r τ => wp_X11_asks (xs (i + 1)).toInt (xs (i + 2)).toInt (xs (i + 3)).toInt σm (fun r2 υ => r = r2 ∧ R τ υ)) := h
  refine p_aload_n hc 1 dL_law_587 rfl rfl ?_
  refine p_aload_n hc 0 dL_law_588 rfl rfl ?_
  refine p_iload_n hc 3 dL_law_589 rfl rfl ?_
  refine p_iconst hc dL_law_590 ?_
  refine p_iadd hc dL_law_591 ?_
  refine p_sldN (j := i + 1) hc hX hbl hbA (by rw [wr_id (by omega) (by omega)]; omega) (by omega) dL_law_592 ?_
  refine p_aload_n hc 0 dL_law_593 rfl rfl ?_
  refine p_iload_n hc 3 dL_law_594 rfl rfl ?_
  refine p_iconst hc dL_law_595 ?_
  refine p_iadd hc dL_law_596 ?_
  refine p_sldN (j := i + 2) hc hX hbl hbA (by rw [wr_id (by omega) (by omega)]; omega) (by omega) dL_law_597 ?_
  refine p_aload_n hc 0 dL_law_598 rfl rfl ?_
  refine p_iload_n hc 3 dL_law_599 rfl rfl ?_
  refine p_iconst hc dL_law_600 ?_
  refine p_iadd hc dL_law_601 ?_
  refine p_sldN (j := i + 3) hc hX hbl hbA (by rw [wr_id (by omega) (by omega)]; omega) (by omega) dL_law_602 ?_
  refine p_cC (As := [vI (xs (i + 1)).toInt, vI (xs (i + 2)).toInt, vI (xs (i + 3)).toInt]) hc hL ml_RL_78 mv_X10_asks (c_X10_asks hL.2.2.2.2.1 hL.2.2.2.2.2.2.2.2.2.1 (cn_i _) (cn_i _) (cn_i _) h) rfl (by decide) (by decide) (by constructor <;> omega) (Nat.le_of_ble_eq_true rfl) rfl dL_law_603 (fun r1 τ cr1 h => ?_)
  refine p_aload_n hc 2 dL_law_606 rfl rfl ?_
  refine p_aload_n hc 0 dL_law_607 rfl rfl ?_
  refine p_iload_n hc 3 dL_law_608 rfl rfl ?_
  refine p_iconst hc dL_law_609 ?_
  refine p_iadd hc dL_law_610 ?_
  refine p_sldN (j := i + 1) hc hX hbl hbA (by rw [wr_id (by omega) (by omega)]; omega) (by omega) dL_law_611 ?_
  refine p_aload_n hc 0 dL_law_612 rfl rfl ?_
  refine p_iload_n hc 3 dL_law_613 rfl rfl ?_
  refine p_iconst hc dL_law_614 ?_
  refine p_iadd hc dL_law_615 ?_
  refine p_sldN (j := i + 2) hc hX hbl hbA (by rw [wr_id (by omega) (by omega)]; omega) (by omega) dL_law_616 ?_
  refine p_aload_n hc 0 dL_law_617 rfl rfl ?_
  refine p_iload_n hc 3 dL_law_618 rfl rfl ?_
  refine p_iconst hc dL_law_619 ?_
  refine p_iadd hc dL_law_620 ?_
  refine p_sldN (j := i + 3) hc hX hbl hbA (by rw [wr_id (by omega) (by omega)]; omega) (by omega) dL_law_621 ?_
  refine p_cM (As := [vI (xs (i + 1)).toInt, vI (xs (i + 2)).toInt, vI (xs (i + 3)).toInt]) hc hL ml_RL_81 mv_X11_asks (fun o => c_X11_asks (eok_eoS hL.2.2.2.2.2.1 o) hL.2.2.2.2.2.2.2.2.2.2.1 (cn_i _) (cn_i _) (cn_i _) h) rfl (by decide) (by decide) (by constructor <;> omega) (Nat.le_of_ble_eq_true rfl) rfl dL_law_622 (fun r2 υ cr2 h => ?_)
  refine p_ic_eq (tgt := 1091) hc dL_law_625 (by decide) (by rw [h.1]) ?_
  exact kk τ υ h.2
set_option maxRecDepth 20000 in
theorem lc_16 {X : jj_X} {EA EC EM : ev_E} {cells slots b L i g : Nat} {xs : Nat → Int32} {Q : State → Prop} {σc σm : st_S} (hc : Lc X code 4 RL) (hL : Lw X EA EC EM) (hX : va_X b L xs (xS X) (xS X).heap) (hbl : b < (xS X).heap.size) (hbA : ¬ eF EA b) (hi : i + 6 ≤ L) (hLL : L ≤ 3072) (hroom : cells + 10 ≤ (xR X).cells ∧ slots + 468 ≤ (xR X).slots) {R : st_S → st_S → Prop} (h : stp 16 (fun j => (xs (i + j)).toInt) σc σm R) (kk : ∀ τ υ, R τ υ → JP X (eF EA) (PL EC EM (g + 0) τ υ) 4 (cells + 0) (slots + 0) Q 1091 [(0, .ref b), (1, vR EC 0), (2, vR EM 0), (3, vI (i : Int))] []) : JP X (eF EA) (PL EC EM g σc σm) 4 cells slots Q 630 [(0, .ref b), (1, vR EC 0), (2, vR EM 0), (3, vI (i : Int))] [] := by
  replace h : wp_X10_send (xs (i + 1)).toInt σc (fun r τ => wp_X11_send (xs (i + 1)).toInt σm (fun r2 υ => r = r2 ∧ R τ υ)) := h
  refine p_aload_n hc 1 dL_law_630 rfl rfl ?_
  refine p_aload_n hc 0 dL_law_631 rfl rfl ?_
  refine p_iload_n hc 3 dL_law_632 rfl rfl ?_
  refine p_iconst hc dL_law_633 ?_
  refine p_iadd hc dL_law_634 ?_
  refine p_sldN (j := i + 1) hc hX hbl hbA (by rw [wr_id (by omega) (by omega)]; omega) (by omega) dL_law_635 ?_
  refine p_cC (As := [vI (xs (i + 1)).toInt]) hc hL ml_RL_82 mv_X10_send (c_X10_send hL.2.2.2.2.1 hL.2.2.2.2.2.2.2.2.2.1 (cn_i _) h) rfl (by decide) (by decide) (by constructor <;> omega) (Nat.le_of_ble_eq_true rfl) rfl dL_law_636 (fun r1 τ cr1 h => ?_)
  refine p_aload_n hc 2 dL_law_639 rfl rfl ?_
  refine p_aload_n hc 0 dL_law_640 rfl rfl ?_
  refine p_iload_n hc 3 dL_law_641 rfl rfl ?_
  refine p_iconst hc dL_law_642 ?_
  refine p_iadd hc dL_law_643 ?_
  refine p_sldN (j := i + 1) hc hX hbl hbA (by rw [wr_id (by omega) (by omega)]; omega) (by omega) dL_law_644 ?_
  refine p_cM (As := [vI (xs (i + 1)).toInt]) hc hL ml_RL_85 mv_X11_send (fun o => c_X11_send (eok_eoS hL.2.2.2.2.2.1 o) hL.2.2.2.2.2.2.2.2.2.2.1 (cn_i _) h) rfl (by decide) (by decide) (by constructor <;> omega) (Nat.le_of_ble_eq_true rfl) rfl dL_law_645 (fun r2 υ cr2 h => ?_)
  refine p_ic_eq (tgt := 1091) hc dL_law_648 (by decide) (by rw [h.1]) ?_
  exact kk τ υ h.2
set_option maxRecDepth 20000 in
theorem lc_17 {X : jj_X} {EA EC EM : ev_E} {cells slots b L i g : Nat} {xs : Nat → Int32} {Q : State → Prop} {σc σm : st_S} (hc : Lc X code 4 RL) (hL : Lw X EA EC EM) (hX : va_X b L xs (xS X) (xS X).heap) (hbl : b < (xS X).heap.size) (hbA : ¬ eF EA b) (hi : i + 6 ≤ L) (hLL : L ≤ 3072) (hroom : cells + 10 ≤ (xR X).cells ∧ slots + 468 ≤ (xR X).slots) {R : st_S → st_S → Prop} (h : stp 17 (fun j => (xs (i + j)).toInt) σc σm R) (kk : ∀ τ υ, R τ υ → JP X (eF EA) (PL EC EM (g + 0) τ υ) 4 (cells + 0) (slots + 0) Q 1091 [(0, .ref b), (1, vR EC 0), (2, vR EM 0), (3, vI (i : Int))] []) : JP X (eF EA) (PL EC EM g σc σm) 4 cells slots Q 653 [(0, .ref b), (1, vR EC 0), (2, vR EM 0), (3, vI (i : Int))] [] := by
  replace h : wp_X10_light (xs (i + 1)).toInt σc (fun r τ => wp_X11_light (xs (i + 1)).toInt σm (fun r2 υ => r = r2 ∧ R τ υ)) := h
  refine p_aload_n hc 1 dL_law_653 rfl rfl ?_
  refine p_aload_n hc 0 dL_law_654 rfl rfl ?_
  refine p_iload_n hc 3 dL_law_655 rfl rfl ?_
  refine p_iconst hc dL_law_656 ?_
  refine p_iadd hc dL_law_657 ?_
  refine p_sldN (j := i + 1) hc hX hbl hbA (by rw [wr_id (by omega) (by omega)]; omega) (by omega) dL_law_658 ?_
  refine p_cC (As := [vI (xs (i + 1)).toInt]) hc hL ml_RL_86 mv_X10_light (c_X10_light hL.2.2.2.2.1 hL.2.2.2.2.2.2.2.2.2.1 (cn_i _) h) rfl (by decide) (by decide) (by constructor <;> omega) (Nat.le_of_ble_eq_true rfl) rfl dL_law_659 (fun r1 τ cr1 h => ?_)
  refine p_aload_n hc 2 dL_law_662 rfl rfl ?_
  refine p_aload_n hc 0 dL_law_663 rfl rfl ?_
  refine p_iload_n hc 3 dL_law_664 rfl rfl ?_
  refine p_iconst hc dL_law_665 ?_
  refine p_iadd hc dL_law_666 ?_
  refine p_sldN (j := i + 1) hc hX hbl hbA (by rw [wr_id (by omega) (by omega)]; omega) (by omega) dL_law_667 ?_
  refine p_cM (As := [vI (xs (i + 1)).toInt]) hc hL ml_RL_89 mv_X11_light (fun o => c_X11_light (eok_eoS hL.2.2.2.2.2.1 o) hL.2.2.2.2.2.2.2.2.2.2.1 (cn_i _) h) rfl (by decide) (by decide) (by constructor <;> omega) (Nat.le_of_ble_eq_true rfl) rfl dL_law_668 (fun r2 υ cr2 h => ?_)
  refine p_ic_eq (tgt := 1091) hc dL_law_671 (by decide) (by rw [h.1]) ?_
  exact kk τ υ h.2
set_option maxRecDepth 20000 in
theorem lc_18 {X : jj_X} {EA EC EM : ev_E} {cells slots b L i g : Nat} {xs : Nat → Int32} {Q : State → Prop} {σc σm : st_S} (hc : Lc X code 4 RL) (hL : Lw X EA EC EM) (hX : va_X b L xs (xS X) (xS X).heap) (hbl : b < (xS X).heap.size) (hbA : ¬ eF EA b) (hi : i + 6 ≤ L) (hLL : L ≤ 3072) (hroom : cells + 10 ≤ (xR X).cells ∧ slots + 468 ≤ (xR X).slots) {R : st_S → st_S → Prop} (h : stp 18 (fun j => (xs (i + j)).toInt) σc σm R) (kk : ∀ τ υ, R τ υ → JP X (eF EA) (PL EC EM (g + 0) τ υ) 4 (cells + 0) (slots + 0) Q 1091 [(0, .ref b), (1, vR EC 0), (2, vR EM 0), (3, vI (i : Int))] []) : JP X (eF EA) (PL EC EM g σc σm) 4 cells slots Q 676 [(0, .ref b), (1, vR EC 0), (2, vR EM 0), (3, vI (i : Int))] [] := by
  replace h : wp_X10_dark  σc (fun r τ => wp_X11_dark  σm (fun r2 υ => r = r2 ∧ R τ υ)) := h
  refine p_aload_n hc 1 dL_law_676 rfl rfl ?_
  refine p_cC (As := []) hc hL ml_RL_90 mv_X10_dark (c_X10_dark hL.2.2.2.2.1 hL.2.2.2.2.2.2.2.2.2.1  h) rfl (by decide) (by decide) (by constructor <;> omega) (Nat.le_of_ble_eq_true rfl) rfl dL_law_677 (fun r1 τ cr1 h => ?_)
  refine p_aload_n hc 2 dL_law_680 rfl rfl ?_
  refine p_cM (As := []) hc hL ml_RL_93 mv_X11_dark (fun o => c_X11_dark (eok_eoS hL.2.2.2.2.2.1 o) hL.2.2.2.2.2.2.2.2.2.2.1  h) rfl (by decide) (by decide) (by constructor <;> omega) (Nat.le_of_ble_eq_true rfl) rfl dL_law_681 (fun r2 υ cr2 h => ?_)
  refine p_ic_eq (tgt := 1091) hc dL_law_684 (by decide) (by rw [h.1]) ?_
  exact kk τ υ h.2
set_option maxRecDepth 20000 in
theorem lc_19 {X : jj_X} {EA EC EM : ev_E} {cells slots b L i g : Nat} {xs : Nat → Int32} {Q : State → Prop} {σc σm : st_S} (hc : Lc X code 4 RL) (hL : Lw X EA EC EM) (hX : va_X b L xs (xS X) (xS X).heap) (hbl : b < (xS X).heap.size) (hbA : ¬ eF EA b) (hi : i + 6 ≤ L) (hLL : L ≤ 3072) (hroom : cells + 10 ≤ (xR X).cells ∧ slots + 468 ≤ (xR X).slots) {R : st_S → st_S → Prop} (h : stp 19 (fun j => (xs (i + j)).toInt) σc σm R) (kk : ∀ τ υ, R τ υ → JP X (eF EA) (PL EC EM (g + 0) τ υ) 4 (cells + 0) (slots + 0) Q 1091 [(0, .ref b), (1, vR EC 0), (2, vR EM 0), (3, vI (i : Int))] []) : JP X (eF EA) (PL EC EM g σc σm) 4 cells slots Q 689 [(0, .ref b), (1, vR EC 0), (2, vR EM 0), (3, vI (i : Int))] [] := by
  replace h : wp_X10_undo  σc (fun r τ => wp_X11_undo  σm (fun r2 υ => r = r2 ∧ R τ υ)) := h
  refine p_aload_n hc 1 dL_law_689 rfl rfl ?_
  refine p_cC (As := []) hc hL ml_RL_94 mv_X10_undo (c_X10_undo hL.2.2.2.2.1 hL.2.2.2.2.2.2.2.2.2.1  h) rfl (by decide) (by decide) (by constructor <;> omega) (Nat.le_of_ble_eq_true rfl) rfl dL_law_690 (fun r1 τ cr1 h => ?_)
  refine p_aload_n hc 2 dL_law_693 rfl rfl ?_
  refine p_cM (As := []) hc hL ml_RL_97 mv_X11_undo (fun o => c_X11_undo (eok_eoS hL.2.2.2.2.2.1 o) hL.2.2.2.2.2.2.2.2.2.2.1  h) rfl (by decide) (by decide) (by constructor <;> omega) (Nat.le_of_ble_eq_true rfl) rfl dL_law_694 (fun r2 υ cr2 h => ?_)
  refine p_ic_eq (tgt := 1091) hc dL_law_697 (by decide) (by rw [h.1]) ?_
  exact kk τ υ h.2
set_option maxRecDepth 20000 in
theorem lc_20 {X : jj_X} {EA EC EM : ev_E} {cells slots b L i g : Nat} {xs : Nat → Int32} {Q : State → Prop} {σc σm : st_S} (hc : Lc X code 4 RL) (hL : Lw X EA EC EM) (hX : va_X b L xs (xS X) (xS X).heap) (hbl : b < (xS X).heap.size) (hbA : ¬ eF EA b) (hi : i + 6 ≤ L) (hLL : L ≤ 3072) (hroom : cells + 10 ≤ (xR X).cells ∧ slots + 468 ≤ (xR X).slots) {R : st_S → st_S → Prop} (h : stp 20 (fun j => (xs (i + j)).toInt) σc σm R) (kk : ∀ τ υ, R τ υ → JP X (eF EA) (PL EC EM (g + 0) τ υ) 4 (cells + 0) (slots + 0) Q 1091 [(0, .ref b), (1, vR EC 0), (2, vR EM 0), (3, vI (i : Int))] []) : JP X (eF EA) (PL EC EM g σc σm) 4 cells slots Q 702 [(0, .ref b), (1, vR EC 0), (2, vR EM 0), (3, vI (i : Int))] [] := by
  replace h : wp_X10_last (xs (i + 1)).toInt σc (fun r τ => wp_X11_last (xs (i + 1)).toInt σm (fun r2 υ => r = r2 ∧ R τ υ)) := h
  refine p_aload_n hc 1 dL_law_702 rfl rfl ?_
  refine p_aload_n hc 0 dL_law_703 rfl rfl ?_
  refine p_iload_n hc 3 dL_law_704 rfl rfl ?_
  refine p_iconst hc dL_law_705 ?_
  refine p_iadd hc dL_law_706 ?_
  refine p_sldN (j := i + 1) hc hX hbl hbA (by rw [wr_id (by omega) (by omega)]; omega) (by omega) dL_law_707 ?_
  refine p_cC (As := [vI (xs (i + 1)).toInt]) hc hL ml_RL_98 mv_X10_last (c_X10_last hL.2.2.2.2.1 hL.2.2.2.2.2.2.2.2.2.1 (cn_i _) h) rfl (by decide) (by decide) (by constructor <;> omega) (Nat.le_of_ble_eq_true rfl) rfl dL_law_708 (fun r1 τ cr1 h => ?_)
  refine p_aload_n hc 2 dL_law_711 rfl rfl ?_
  refine p_aload_n hc 0 dL_law_712 rfl rfl ?_
  refine p_iload_n hc 3 dL_law_713 rfl rfl ?_
  refine p_iconst hc dL_law_714 ?_
  refine p_iadd hc dL_law_715 ?_
  refine p_sldN (j := i + 1) hc hX hbl hbA (by rw [wr_id (by omega) (by omega)]; omega) (by omega) dL_law_716 ?_
  refine p_cM (As := [vI (xs (i + 1)).toInt]) hc hL ml_RL_101 mv_X11_last (fun o => c_X11_last (eok_eoS hL.2.2.2.2.2.1 o) hL.2.2.2.2.2.2.2.2.2.2.1 (cn_i _) h) rfl (by decide) (by decide) (by constructor <;> omega) (Nat.le_of_ble_eq_true rfl) rfl dL_law_717 (fun r2 υ cr2 h => ?_)
  refine p_ic_eq (tgt := 1091) hc dL_law_720 (by decide) (by rw [h.1]) ?_
  exact kk τ υ h.2
set_option maxRecDepth 20000 in
theorem lc_21 {X : jj_X} {EA EC EM : ev_E} {cells slots b L i g : Nat} {xs : Nat → Int32} {Q : State → Prop} {σc σm : st_S} (hc : Lc X code 4 RL) (hL : Lw X EA EC EM) (hX : va_X b L xs (xS X) (xS X).heap) (hbl : b < (xS X).heap.size) (hbA : ¬ eF EA b) (hi : i + 6 ≤ L) (hLL : L ≤ 3072) (hroom : cells + 10 ≤ (xR X).cells ∧ slots + 468 ≤ (xR X).slots) {R : st_S → st_S → Prop} (h : stp 21 (fun j => (xs (i + j)).toInt) σc σm R) (kk : ∀ τ υ, R τ υ → JP X (eF EA) (PL EC EM (g + 0) τ υ) 4 (cells + 0) (slots + 0) Q 1091 [(0, .ref b), (1, vR EC 0), (2, vR EM 0), (3, vI (i : Int))] []) : JP X (eF EA) (PL EC EM g σc σm) 4 cells slots Q 725 [(0, .ref b), (1, vR EC 0), (2, vR EM 0), (3, vI (i : Int))] [] := by
  replace h : wp_X10_cheap (xs (i + 1)).toInt (xs (i + 2)).toInt σc (fun r τ => wp_X11_cheap (xs (i + 1)).toInt (xs (i + 2)).toInt σm (fun r2 υ => r = r2 ∧ R τ υ)) := h
  refine p_aload_n hc 1 dL_law_725 rfl rfl ?_
  refine p_aload_n hc 0 dL_law_726 rfl rfl ?_
  refine p_iload_n hc 3 dL_law_727 rfl rfl ?_
  refine p_iconst hc dL_law_728 ?_
  refine p_iadd hc dL_law_729 ?_
  refine p_sldN (j := i + 1) hc hX hbl hbA (by rw [wr_id (by omega) (by omega)]; omega) (by omega) dL_law_730 ?_
  refine p_aload_n hc 0 dL_law_731 rfl rfl ?_
  refine p_iload_n hc 3 dL_law_732 rfl rfl ?_
  refine p_iconst hc dL_law_733 ?_
  refine p_iadd hc dL_law_734 ?_
  refine p_sldN (j := i + 2) hc hX hbl hbA (by rw [wr_id (by omega) (by omega)]; omega) (by omega) dL_law_735 ?_
  refine p_cC (As := [vI (xs (i + 1)).toInt, vI (xs (i + 2)).toInt]) hc hL ml_RL_102 mv_X10_cheap (c_X10_cheap hL.2.2.2.2.1 hL.2.2.2.2.2.2.2.2.2.1 (cn_i _) (cn_i _) h) rfl (by decide) (by decide) (by constructor <;> omega) (Nat.le_of_ble_eq_true rfl) rfl dL_law_736 (fun r1 τ cr1 h => ?_)
  refine p_aload_n hc 2 dL_law_739 rfl rfl ?_
  refine p_aload_n hc 0 dL_law_740 rfl rfl ?_
  refine p_iload_n hc 3 dL_law_741 rfl rfl ?_
  refine p_iconst hc dL_law_742 ?_
  refine p_iadd hc dL_law_743 ?_
  refine p_sldN (j := i + 1) hc hX hbl hbA (by rw [wr_id (by omega) (by omega)]; omega) (by omega) dL_law_744 ?_
  refine p_aload_n hc 0 dL_law_745 rfl rfl ?_
  refine p_iload_n hc 3 dL_law_746 rfl rfl ?_
  refine p_iconst hc dL_law_747 ?_
  refine p_iadd hc dL_law_748 ?_
  refine p_sldN (j := i + 2) hc hX hbl hbA (by rw [wr_id (by omega) (by omega)]; omega) (by omega) dL_law_749 ?_
  refine p_cM (As := [vI (xs (i + 1)).toInt, vI (xs (i + 2)).toInt]) hc hL ml_RL_105 mv_X11_cheap (fun o => c_X11_cheap (eok_eoS hL.2.2.2.2.2.1 o) hL.2.2.2.2.2.2.2.2.2.2.1 (cn_i _) (cn_i _) h) rfl (by decide) (by decide) (by constructor <;> omega) (Nat.le_of_ble_eq_true rfl) rfl dL_law_750 (fun r2 υ cr2 h => ?_)
  refine p_ic_eq (tgt := 1091) hc dL_law_753 (by decide) (by rw [h.1]) ?_
  exact kk τ υ h.2
set_option maxRecDepth 20000 in
theorem lc_22 {X : jj_X} {EA EC EM : ev_E} {cells slots b L i g : Nat} {xs : Nat → Int32} {Q : State → Prop} {σc σm : st_S} (hc : Lc X code 4 RL) (hL : Lw X EA EC EM) (hX : va_X b L xs (xS X) (xS X).heap) (hbl : b < (xS X).heap.size) (hbA : ¬ eF EA b) (hi : i + 6 ≤ L) (hLL : L ≤ 3072) (hroom : cells + 10 ≤ (xR X).cells ∧ slots + 468 ≤ (xR X).slots) {R : st_S → st_S → Prop} (h : stp 22 (fun j => (xs (i + j)).toInt) σc σm R) (kk : ∀ τ υ, R τ υ → JP X (eF EA) (PL EC EM (g + 0) τ υ) 4 (cells + 0) (slots + 0) Q 1091 [(0, .ref b), (1, vR EC 0), (2, vR EM 0), (3, vI (i : Int))] []) : JP X (eF EA) (PL EC EM g σc σm) 4 cells slots Q 758 [(0, .ref b), (1, vR EC 0), (2, vR EM 0), (3, vI (i : Int))] [] := by
  replace h : wp_X10_ways (xs (i + 1)).toInt σc (fun r τ => wp_X11_ways (xs (i + 1)).toInt σm (fun r2 υ => r = r2 ∧ R τ υ)) := h
  refine p_aload_n hc 1 dL_law_758 rfl rfl ?_
  refine p_aload_n hc 0 dL_law_759 rfl rfl ?_
  refine p_iload_n hc 3 dL_law_760 rfl rfl ?_
  refine p_iconst hc dL_law_761 ?_
  refine p_iadd hc dL_law_762 ?_
  refine p_sldN (j := i + 1) hc hX hbl hbA (by rw [wr_id (by omega) (by omega)]; omega) (by omega) dL_law_763 ?_
  refine p_cCL (As := [vI (xs (i + 1)).toInt]) hc hL ml_RL_106 mv_X10_ways (c_X10_ways hL.2.2.2.2.1 hL.2.2.2.2.2.2.2.2.2.1 (cn_i _) h) rfl (by decide) (by decide) (by constructor <;> omega) (Nat.le_of_ble_eq_true rfl) rfl dL_law_764 (fun r1 τ cr1 h => ?_)
  refine p_aload_n hc 2 dL_law_767 rfl rfl ?_
  refine p_aload_n hc 0 dL_law_768 rfl rfl ?_
  refine p_iload_n hc 3 dL_law_769 rfl rfl ?_
  refine p_iconst hc dL_law_770 ?_
  refine p_iadd hc dL_law_771 ?_
  refine p_sldN (j := i + 1) hc hX hbl hbA (by rw [wr_id (by omega) (by omega)]; omega) (by omega) dL_law_772 ?_
  refine p_cML (As := [vI (xs (i + 1)).toInt]) hc hL ml_RL_110 mv_X11_ways (fun o => c_X11_ways (eok_eoS hL.2.2.2.2.2.1 o) hL.2.2.2.2.2.2.2.2.2.2.1 (cn_i _) h) rfl (by decide) (by decide) (by constructor <;> omega) (Nat.le_of_ble_eq_true rfl) rfl dL_law_773 (fun r2 υ cr2 h => ?_)
  refine p_lcmp hc dL_law_776 ?_
  refine p_if_eq (tgt := 1091) hc dL_law_777 (by decide) (by rw [h.1]; exact cmp_self _) ?_
  exact kk τ υ h.2
set_option maxRecDepth 20000 in
theorem lc_23 {X : jj_X} {EA EC EM : ev_E} {cells slots b L i g : Nat} {xs : Nat → Int32} {Q : State → Prop} {σc σm : st_S} (hc : Lc X code 4 RL) (hL : Lw X EA EC EM) (hX : va_X b L xs (xS X) (xS X).heap) (hbl : b < (xS X).heap.size) (hbA : ¬ eF EA b) (hi : i + 6 ≤ L) (hLL : L ≤ 3072) (hroom : cells + 10 ≤ (xR X).cells ∧ slots + 468 ≤ (xR X).slots) {R : st_S → st_S → Prop} (h : stp 23 (fun j => (xs (i + j)).toInt) σc σm R) (kk : ∀ τ υ, R τ υ → JP X (eF EA) (PL EC EM (g + 0) τ υ) 4 (cells + 0) (slots + 0) Q 1091 [(0, .ref b), (1, vR EC 0), (2, vR EM 0), (3, vI (i : Int))] []) : JP X (eF EA) (PL EC EM g σc σm) 4 cells slots Q 782 [(0, .ref b), (1, vR EC 0), (2, vR EM 0), (3, vI (i : Int))] [] := by
  replace h : wp_X10_late (xs (i + 1)).toInt σc (fun r τ => wp_X11_late (xs (i + 1)).toInt σm (fun r2 υ => r = r2 ∧ R τ υ)) := h
  refine p_aload_n hc 1 dL_law_782 rfl rfl ?_
  refine p_aload_n hc 0 dL_law_783 rfl rfl ?_
  refine p_iload_n hc 3 dL_law_784 rfl rfl ?_
  refine p_iconst hc dL_law_785 ?_
  refine p_iadd hc dL_law_786 ?_
  refine p_sldN (j := i + 1) hc hX hbl hbA (by rw [wr_id (by omega) (by omega)]; omega) (by omega) dL_law_787 ?_
  refine p_cC (As := [vI (xs (i + 1)).toInt]) hc hL ml_RL_111 mv_X10_late (c_X10_late hL.2.2.2.2.1 hL.2.2.2.2.2.2.2.2.2.1 (cn_i _) h) rfl (by decide) (by decide) (by constructor <;> omega) (Nat.le_of_ble_eq_true rfl) rfl dL_law_788 (fun r1 τ cr1 h => ?_)
  refine p_aload_n hc 2 dL_law_791 rfl rfl ?_
  refine p_aload_n hc 0 dL_law_792 rfl rfl ?_
  refine p_iload_n hc 3 dL_law_793 rfl rfl ?_
  refine p_iconst hc dL_law_794 ?_
  refine p_iadd hc dL_law_795 ?_
  refine p_sldN (j := i + 1) hc hX hbl hbA (by rw [wr_id (by omega) (by omega)]; omega) (by omega) dL_law_796 ?_
  refine p_cM (As := [vI (xs (i + 1)).toInt]) hc hL ml_RL_114 mv_X11_late (fun o => c_X11_late (eok_eoS hL.2.2.2.2.2.1 o) hL.2.2.2.2.2.2.2.2.2.2.1 (cn_i _) h) rfl (by decide) (by decide) (by constructor <;> omega) (Nat.le_of_ble_eq_true rfl) rfl dL_law_797 (fun r2 υ cr2 h => ?_)
  refine p_ic_eq (tgt := 1091) hc dL_law_800 (by decide) (by rw [h.1]) ?_
  exact kk τ υ h.2
set_option maxRecDepth 20000 in
theorem lc_24 {X : jj_X} {EA EC EM : ev_E} {cells slots b L i g : Nat} {xs : Nat → Int32} {Q : State → Prop} {σc σm : st_S} (hc : Lc X code 4 RL) (hL : Lw X EA EC EM) (hX : va_X b L xs (xS X) (xS X).heap) (hbl : b < (xS X).heap.size) (hbA : ¬ eF EA b) (hi : i + 6 ≤ L) (hLL : L ≤ 3072) (hroom : cells + 10 ≤ (xR X).cells ∧ slots + 468 ≤ (xR X).slots) {R : st_S → st_S → Prop} (h : stp 24 (fun j => (xs (i + j)).toInt) σc σm R) (kk : ∀ τ υ, R τ υ → JP X (eF EA) (PL EC EM (g + 0) τ υ) 4 (cells + 0) (slots + 0) Q 1091 [(0, .ref b), (1, vR EC 0), (2, vR EM 0), (3, vI (i : Int))] []) : JP X (eF EA) (PL EC EM g σc σm) 4 cells slots Q 805 [(0, .ref b), (1, vR EC 0), (2, vR EM 0), (3, vI (i : Int))] [] := by
  replace h : wp_X10_swaps (xs (i + 1)).toInt σc (fun r τ => wp_X11_swaps (xs (i + 1)).toInt σm (fun r2 υ => r = r2 ∧ R τ υ)) := h
  refine p_aload_n hc 1 dL_law_805 rfl rfl ?_
  refine p_aload_n hc 0 dL_law_806 rfl rfl ?_
  refine p_iload_n hc 3 dL_law_807 rfl rfl ?_
  refine p_iconst hc dL_law_808 ?_
  refine p_iadd hc dL_law_809 ?_
  refine p_sldN (j := i + 1) hc hX hbl hbA (by rw [wr_id (by omega) (by omega)]; omega) (by omega) dL_law_810 ?_
  refine p_cC (As := [vI (xs (i + 1)).toInt]) hc hL ml_RL_115 mv_X10_swaps (c_X10_swaps hL.2.2.2.2.1 hL.2.2.2.2.2.2.2.2.2.1 (cn_i _) h) rfl (by decide) (by decide) (by constructor <;> omega) (Nat.le_of_ble_eq_true rfl) rfl dL_law_811 (fun r1 τ cr1 h => ?_)
  refine p_aload_n hc 2 dL_law_814 rfl rfl ?_
  refine p_aload_n hc 0 dL_law_815 rfl rfl ?_
  refine p_iload_n hc 3 dL_law_816 rfl rfl ?_
  refine p_iconst hc dL_law_817 ?_
  refine p_iadd hc dL_law_818 ?_
  refine p_sldN (j := i + 1) hc hX hbl hbA (by rw [wr_id (by omega) (by omega)]; omega) (by omega) dL_law_819 ?_
  refine p_cM (As := [vI (xs (i + 1)).toInt]) hc hL ml_RL_118 mv_X11_swaps (fun o => c_X11_swaps (eok_eoS hL.2.2.2.2.2.1 o) hL.2.2.2.2.2.2.2.2.2.2.1 (cn_i _) h) rfl (by decide) (by decide) (by constructor <;> omega) (Nat.le_of_ble_eq_true rfl) rfl dL_law_820 (fun r2 υ cr2 h => ?_)
  refine p_ic_eq (tgt := 1091) hc dL_law_823 (by decide) (by rw [h.1]) ?_
  exact kk τ υ h.2
set_option maxRecDepth 20000 in
theorem lc_25 {X : jj_X} {EA EC EM : ev_E} {cells slots b L i g : Nat} {xs : Nat → Int32} {Q : State → Prop} {σc σm : st_S} (hc : Lc X code 4 RL) (hL : Lw X EA EC EM) (hX : va_X b L xs (xS X) (xS X).heap) (hbl : b < (xS X).heap.size) (hbA : ¬ eF EA b) (hi : i + 6 ≤ L) (hLL : L ≤ 3072) (hroom : cells + 10 ≤ (xR X).cells ∧ slots + 468 ≤ (xR X).slots) {R : st_S → st_S → Prop} (h : stp 25 (fun j => (xs (i + j)).toInt) σc σm R) (kk : ∀ τ υ, R τ υ → JP X (eF EA) (PL EC EM (g + 0) τ υ) 4 (cells + 0) (slots + 0) Q 1091 [(0, .ref b), (1, vR EC 0), (2, vR EM 0), (3, vI (i : Int))] []) : JP X (eF EA) (PL EC EM g σc σm) 4 cells slots Q 828 [(0, .ref b), (1, vR EC 0), (2, vR EM 0), (3, vI (i : Int))] [] := by
  replace h : wp_X10_crews (xs (i + 1)).toInt σc (fun r τ => wp_X11_crews (xs (i + 1)).toInt σm (fun r2 υ => r = r2 ∧ R τ υ)) := h
  refine p_aload_n hc 1 dL_law_828 rfl rfl ?_
  refine p_aload_n hc 0 dL_law_829 rfl rfl ?_
  refine p_iload_n hc 3 dL_law_830 rfl rfl ?_
  refine p_iconst hc dL_law_831 ?_
  refine p_iadd hc dL_law_832 ?_
  refine p_sldN (j := i + 1) hc hX hbl hbA (by rw [wr_id (by omega) (by omega)]; omega) (by omega) dL_law_833 ?_
  refine p_cC (As := [vI (xs (i + 1)).toInt]) hc hL ml_RL_119 mv_X10_crews (c_X10_crews hL.2.2.2.2.1 hL.2.2.2.2.2.2.2.2.2.1 (cn_i _) h) rfl (by decide) (by decide) (by constructor <;> omega) (Nat.le_of_ble_eq_true rfl) rfl dL_law_834 (fun r1 τ cr1 h => ?_)
  refine p_aload_n hc 2 dL_law_837 rfl rfl ?_
  refine p_aload_n hc 0 dL_law_838 rfl rfl ?_
  refine p_iload_n hc 3 dL_law_839 rfl rfl ?_
  refine p_iconst hc dL_law_840 ?_
  refine p_iadd hc dL_law_841 ?_
  refine p_sldN (j := i + 1) hc hX hbl hbA (by rw [wr_id (by omega) (by omega)]; omega) (by omega) dL_law_842 ?_
  refine p_cM (As := [vI (xs (i + 1)).toInt]) hc hL ml_RL_122 mv_X11_crews (fun o => c_X11_crews (eok_eoS hL.2.2.2.2.2.1 o) hL.2.2.2.2.2.2.2.2.2.2.1 (cn_i _) h) rfl (by decide) (by decide) (by constructor <;> omega) (Nat.le_of_ble_eq_true rfl) rfl dL_law_843 (fun r2 υ cr2 h => ?_)
  refine p_ic_eq (tgt := 1091) hc dL_law_846 (by decide) (by rw [h.1]) ?_
  exact kk τ υ h.2
set_option maxRecDepth 20000 in
theorem lc_26 {X : jj_X} {EA EC EM : ev_E} {cells slots b L i g : Nat} {xs : Nat → Int32} {Q : State → Prop} {σc σm : st_S} (hc : Lc X code 4 RL) (hL : Lw X EA EC EM) (hX : va_X b L xs (xS X) (xS X).heap) (hbl : b < (xS X).heap.size) (hbA : ¬ eF EA b) (hi : i + 6 ≤ L) (hLL : L ≤ 3072) (hroom : cells + 10 ≤ (xR X).cells ∧ slots + 468 ≤ (xR X).slots) {R : st_S → st_S → Prop} (h : stp 26 (fun j => (xs (i + j)).toInt) σc σm R) (kk : ∀ τ υ, R τ υ → JP X (eF EA) (PL EC EM (g + 0) τ υ) 4 (cells + 0) (slots + 0) Q 1091 [(0, .ref b), (1, vR EC 0), (2, vR EM 0), (3, vI (i : Int))] []) : JP X (eF EA) (PL EC EM g σc σm) 4 cells slots Q 851 [(0, .ref b), (1, vR EC 0), (2, vR EM 0), (3, vI (i : Int))] [] := by
  replace h : wp_X10_share (xs (i + 1)).toInt σc (fun r τ => wp_X11_share (xs (i + 1)).toInt σm (fun r2 υ => r = r2 ∧ R τ υ)) := h
  refine p_aload_n hc 1 dL_law_851 rfl rfl ?_
  refine p_aload_n hc 0 dL_law_852 rfl rfl ?_
  refine p_iload_n hc 3 dL_law_853 rfl rfl ?_
  refine p_iconst hc dL_law_854 ?_
  refine p_iadd hc dL_law_855 ?_
  refine p_sldN (j := i + 1) hc hX hbl hbA (by rw [wr_id (by omega) (by omega)]; omega) (by omega) dL_law_856 ?_
  refine p_cC (As := [vI (xs (i + 1)).toInt]) hc hL ml_RL_123 mv_X10_share (c_X10_share hL.2.2.2.2.1 hL.2.2.2.2.2.2.2.2.2.1 (cn_i _) h) rfl (by decide) (by decide) (by constructor <;> omega) (Nat.le_of_ble_eq_true rfl) rfl dL_law_857 (fun r1 τ cr1 h => ?_)
  refine p_aload_n hc 2 dL_law_860 rfl rfl ?_
  refine p_aload_n hc 0 dL_law_861 rfl rfl ?_
  refine p_iload_n hc 3 dL_law_862 rfl rfl ?_
  refine p_iconst hc dL_law_863 ?_
  refine p_iadd hc dL_law_864 ?_
  refine p_sldN (j := i + 1) hc hX hbl hbA (by rw [wr_id (by omega) (by omega)]; omega) (by omega) dL_law_865 ?_
  refine p_cM (As := [vI (xs (i + 1)).toInt]) hc hL ml_RL_126 mv_X11_share (fun o => c_X11_share (eok_eoS hL.2.2.2.2.2.1 o) hL.2.2.2.2.2.2.2.2.2.2.1 (cn_i _) h) rfl (by decide) (by decide) (by constructor <;> omega) (Nat.le_of_ble_eq_true rfl) rfl dL_law_866 (fun r2 υ cr2 h => ?_)
  refine p_ic_eq (tgt := 1091) hc dL_law_869 (by decide) (by rw [h.1]) ?_
  exact kk τ υ h.2
set_option maxRecDepth 20000 in
theorem lc_27 {X : jj_X} {EA EC EM : ev_E} {cells slots b L i g : Nat} {xs : Nat → Int32} {Q : State → Prop} {σc σm : st_S} (hc : Lc X code 4 RL) (hL : Lw X EA EC EM) (hX : va_X b L xs (xS X) (xS X).heap) (hbl : b < (xS X).heap.size) (hbA : ¬ eF EA b) (hi : i + 6 ≤ L) (hLL : L ≤ 3072) (hroom : cells + 10 ≤ (xR X).cells ∧ slots + 468 ≤ (xR X).slots) {R : st_S → st_S → Prop} (h : stp 27 (fun j => (xs (i + j)).toInt) σc σm R) (kk : ∀ τ υ, R τ υ → JP X (eF EA) (PL EC EM (g + 0) τ υ) 4 (cells + 0) (slots + 0) Q 1091 [(0, .ref b), (1, vR EC 0), (2, vR EM 0), (3, vI (i : Int))] []) : JP X (eF EA) (PL EC EM g σc σm) 4 cells slots Q 874 [(0, .ref b), (1, vR EC 0), (2, vR EM 0), (3, vI (i : Int))] [] := by
  replace h : wp_X10_harm (xs (i + 1)).toInt σc (fun r τ => wp_X11_harm (xs (i + 1)).toInt σm (fun r2 υ => r = r2 ∧ R τ υ)) := h
  refine p_aload_n hc 1 dL_law_874 rfl rfl ?_
  refine p_aload_n hc 0 dL_law_875 rfl rfl ?_
  refine p_iload_n hc 3 dL_law_876 rfl rfl ?_
  refine p_iconst hc dL_law_877 ?_
  refine p_iadd hc dL_law_878 ?_
  refine p_sldN (j := i + 1) hc hX hbl hbA (by rw [wr_id (by omega) (by omega)]; omega) (by omega) dL_law_879 ?_
  refine p_cC (As := [vI (xs (i + 1)).toInt]) hc hL ml_RL_127 mv_X10_harm (c_X10_harm hL.2.2.2.2.1 hL.2.2.2.2.2.2.2.2.2.1 (cn_i _) h) rfl (by decide) (by decide) (by constructor <;> omega) (Nat.le_of_ble_eq_true rfl) rfl dL_law_880 (fun r1 τ cr1 h => ?_)
  refine p_aload_n hc 2 dL_law_883 rfl rfl ?_
  refine p_aload_n hc 0 dL_law_884 rfl rfl ?_
  refine p_iload_n hc 3 dL_law_885 rfl rfl ?_
  refine p_iconst hc dL_law_886 ?_
  refine p_iadd hc dL_law_887 ?_
  refine p_sldN (j := i + 1) hc hX hbl hbA (by rw [wr_id (by omega) (by omega)]; omega) (by omega) dL_law_888 ?_
  refine p_cM (As := [vI (xs (i + 1)).toInt]) hc hL ml_RL_130 mv_X11_harm (fun o => c_X11_harm (eok_eoS hL.2.2.2.2.2.1 o) hL.2.2.2.2.2.2.2.2.2.2.1 (cn_i _) h) rfl (by decide) (by decide) (by constructor <;> omega) (Nat.le_of_ble_eq_true rfl) rfl dL_law_889 (fun r2 υ cr2 h => ?_)
  refine p_ic_eq (tgt := 1091) hc dL_law_892 (by decide) (by rw [h.1]) ?_
  exact kk τ υ h.2
set_option maxRecDepth 20000 in
theorem lc_28 {X : jj_X} {EA EC EM : ev_E} {cells slots b L i g : Nat} {xs : Nat → Int32} {Q : State → Prop} {σc σm : st_S} (hc : Lc X code 4 RL) (hL : Lw X EA EC EM) (hX : va_X b L xs (xS X) (xS X).heap) (hbl : b < (xS X).heap.size) (hbA : ¬ eF EA b) (hi : i + 6 ≤ L) (hLL : L ≤ 3072) (hroom : cells + 10 ≤ (xR X).cells ∧ slots + 468 ≤ (xR X).slots) {R : st_S → st_S → Prop} (h : stp 28 (fun j => (xs (i + j)).toInt) σc σm R) (kk : ∀ τ υ, R τ υ → JP X (eF EA) (PL EC EM (g + 0) τ υ) 4 (cells + 0) (slots + 0) Q 1091 [(0, .ref b), (1, vR EC 0), (2, vR EM 0), (3, vI (i : Int))] []) : JP X (eF EA) (PL EC EM g σc σm) 4 cells slots Q 897 [(0, .ref b), (1, vR EC 0), (2, vR EM 0), (3, vI (i : Int))] [] := by
  replace h : wp_X10_hush (xs (i + 1)).toInt (xs (i + 2)).toInt σc (fun r τ => wp_X11_hush (xs (i + 1)).toInt (xs (i + 2)).toInt σm (fun r2 υ => r = r2 ∧ R τ υ)) := h
  refine p_aload_n hc 1 dL_law_897 rfl rfl ?_
  refine p_aload_n hc 0 dL_law_898 rfl rfl ?_
  refine p_iload_n hc 3 dL_law_899 rfl rfl ?_
  refine p_iconst hc dL_law_900 ?_
  refine p_iadd hc dL_law_901 ?_
  refine p_sldN (j := i + 1) hc hX hbl hbA (by rw [wr_id (by omega) (by omega)]; omega) (by omega) dL_law_902 ?_
  refine p_aload_n hc 0 dL_law_903 rfl rfl ?_
  refine p_iload_n hc 3 dL_law_904 rfl rfl ?_
  refine p_iconst hc dL_law_905 ?_
  refine p_iadd hc dL_law_906 ?_
  refine p_sldN (j := i + 2) hc hX hbl hbA (by rw [wr_id (by omega) (by omega)]; omega) (by omega) dL_law_907 ?_
  refine p_cC (As := [vI (xs (i + 1)).toInt, vI (xs (i + 2)).toInt]) hc hL ml_RL_131 mv_X10_hush (c_X10_hush hL.2.2.2.2.1 hL.2.2.2.2.2.2.2.2.2.1 (cn_i _) (cn_i _) h) rfl (by decide) (by decide) (by constructor <;> omega) (Nat.le_of_ble_eq_true rfl) rfl dL_law_908 (fun r1 τ cr1 h => ?_)
  refine p_aload_n hc 2 dL_law_911 rfl rfl ?_
  refine p_aload_n hc 0 dL_law_912 rfl rfl ?_
  refine p_iload_n hc 3 dL_law_913 rfl rfl ?_
  refine p_iconst hc dL_law_914 ?_
  refine p_iadd hc dL_law_915 ?_
  refine p_sldN (j := i + 1) hc hX hbl hbA (by rw [wr_id (by omega) (by omega)]; omega) (by omega) dL_law_916 ?_
  refine p_aload_n hc 0 dL_law_917 rfl rfl ?_
  refine p_iload_n hc 3 dL_law_918 rfl rfl ?_
  refine p_iconst hc dL_law_919 ?_
  refine p_iadd hc dL_law_920 ?_
  refine p_sldN (j := i + 2) hc hX hbl hbA (by rw [wr_id (by omega) (by omega)]; omega) (by omega) dL_law_921 ?_
  refine p_cM (As := [vI (xs (i + 1)).toInt, vI (xs (i + 2)).toInt]) hc hL ml_RL_134 mv_X11_hush (fun o => c_X11_hush (eok_eoS hL.2.2.2.2.2.1 o) hL.2.2.2.2.2.2.2.2.2.2.1 (cn_i _) (cn_i _) h) rfl (by decide) (by decide) (by constructor <;> omega) (Nat.le_of_ble_eq_true rfl) rfl dL_law_922 (fun r2 υ cr2 h => ?_)
  refine p_ic_eq (tgt := 1091) hc dL_law_925 (by decide) (by rw [h.1]) ?_
  exact kk τ υ h.2
set_option maxRecDepth 20000 in
theorem lc_29 {X : jj_X} {EA EC EM : ev_E} {cells slots b L i g : Nat} {xs : Nat → Int32} {Q : State → Prop} {σc σm : st_S} (hc : Lc X code 4 RL) (hL : Lw X EA EC EM) (hX : va_X b L xs (xS X) (xS X).heap) (hbl : b < (xS X).heap.size) (hbA : ¬ eF EA b) (hi : i + 6 ≤ L) (hLL : L ≤ 3072) (hroom : cells + 10 ≤ (xR X).cells ∧ slots + 468 ≤ (xR X).slots) {R : st_S → st_S → Prop} (h : stp 29 (fun j => (xs (i + j)).toInt) σc σm R) (kk : ∀ τ υ, R τ υ → JP X (eF EA) (PL EC EM (g + 0) τ υ) 4 (cells + 0) (slots + 0) Q 1091 [(0, .ref b), (1, vR EC 0), (2, vR EM 0), (3, vI (i : Int))] []) : JP X (eF EA) (PL EC EM g σc σm) 4 cells slots Q 930 [(0, .ref b), (1, vR EC 0), (2, vR EM 0), (3, vI (i : Int))] [] := by
  replace h : wp_X10_who (xs (i + 1)).toInt σc (fun r τ => wp_X11_who (xs (i + 1)).toInt σm (fun r2 υ => r = r2 ∧ R τ υ)) := h
  refine p_aload_n hc 1 dL_law_930 rfl rfl ?_
  refine p_aload_n hc 0 dL_law_931 rfl rfl ?_
  refine p_iload_n hc 3 dL_law_932 rfl rfl ?_
  refine p_iconst hc dL_law_933 ?_
  refine p_iadd hc dL_law_934 ?_
  refine p_sldN (j := i + 1) hc hX hbl hbA (by rw [wr_id (by omega) (by omega)]; omega) (by omega) dL_law_935 ?_
  refine p_cC (As := [vI (xs (i + 1)).toInt]) hc hL ml_RL_135 mv_X10_who (c_X10_who hL.2.2.2.2.1 hL.2.2.2.2.2.2.2.2.2.1 (cn_i _) h) rfl (by decide) (by decide) (by constructor <;> omega) (Nat.le_of_ble_eq_true rfl) rfl dL_law_936 (fun r1 τ cr1 h => ?_)
  refine p_aload_n hc 2 dL_law_939 rfl rfl ?_
  refine p_aload_n hc 0 dL_law_940 rfl rfl ?_
  refine p_iload_n hc 3 dL_law_941 rfl rfl ?_
  refine p_iconst hc dL_law_942 ?_
  refine p_iadd hc dL_law_943 ?_
  refine p_sldN (j := i + 1) hc hX hbl hbA (by rw [wr_id (by omega) (by omega)]; omega) (by omega) dL_law_944 ?_
  refine p_cM (As := [vI (xs (i + 1)).toInt]) hc hL ml_RL_138 mv_X11_who (fun o => c_X11_who (eok_eoS hL.2.2.2.2.2.1 o) hL.2.2.2.2.2.2.2.2.2.2.1 (cn_i _) h) rfl (by decide) (by decide) (by constructor <;> omega) (Nat.le_of_ble_eq_true rfl) rfl dL_law_945 (fun r2 υ cr2 h => ?_)
  refine p_ic_eq (tgt := 1091) hc dL_law_948 (by decide) (by rw [h.1]) ?_
  exact kk τ υ h.2
set_option maxRecDepth 20000 in
theorem lc_30 {X : jj_X} {EA EC EM : ev_E} {cells slots b L i g : Nat} {xs : Nat → Int32} {Q : State → Prop} {σc σm : st_S} (hc : Lc X code 4 RL) (hL : Lw X EA EC EM) (hX : va_X b L xs (xS X) (xS X).heap) (hbl : b < (xS X).heap.size) (hbA : ¬ eF EA b) (hi : i + 6 ≤ L) (hLL : L ≤ 3072) (hroom : cells + 10 ≤ (xR X).cells ∧ slots + 468 ≤ (xR X).slots) {R : st_S → st_S → Prop} (h : stp 30 (fun j => (xs (i + j)).toInt) σc σm R) (kk : ∀ τ υ, R τ υ → JP X (eF EA) (PL EC EM (g + 0) τ υ) 4 (cells + 0) (slots + 0) Q 1091 [(0, .ref b), (1, vR EC 0), (2, vR EM 0), (3, vI (i : Int))] []) : JP X (eF EA) (PL EC EM g σc σm) 4 cells slots Q 953 [(0, .ref b), (1, vR EC 0), (2, vR EM 0), (3, vI (i : Int))] [] := by
  replace h : wp_X10_winter (xs (i + 1)).toInt (xs (i + 2)).toInt σc (fun r τ => wp_X11_winter (xs (i + 1)).toInt (xs (i + 2)).toInt σm (fun r2 υ => r = r2 ∧ R τ υ)) := h
  refine p_aload_n hc 1 dL_law_953 rfl rfl ?_
  refine p_aload_n hc 0 dL_law_954 rfl rfl ?_
  refine p_iload_n hc 3 dL_law_955 rfl rfl ?_
  refine p_iconst hc dL_law_956 ?_
  refine p_iadd hc dL_law_957 ?_
  refine p_sldN (j := i + 1) hc hX hbl hbA (by rw [wr_id (by omega) (by omega)]; omega) (by omega) dL_law_958 ?_
  refine p_aload_n hc 0 dL_law_959 rfl rfl ?_
  refine p_iload_n hc 3 dL_law_960 rfl rfl ?_
  refine p_iconst hc dL_law_961 ?_
  refine p_iadd hc dL_law_962 ?_
  refine p_sldN (j := i + 2) hc hX hbl hbA (by rw [wr_id (by omega) (by omega)]; omega) (by omega) dL_law_963 ?_
  refine p_cC (As := [vI (xs (i + 1)).toInt, vI (xs (i + 2)).toInt]) hc hL ml_RL_139 mv_X10_winter (c_X10_winter hL.2.2.2.2.1 hL.2.2.2.2.2.2.2.2.2.1 (cn_i _) (cn_i _) h) rfl (by decide) (by decide) (by constructor <;> omega) (Nat.le_of_ble_eq_true rfl) rfl dL_law_964 (fun r1 τ cr1 h => ?_)
  refine p_aload_n hc 2 dL_law_967 rfl rfl ?_
  refine p_aload_n hc 0 dL_law_968 rfl rfl ?_
  refine p_iload_n hc 3 dL_law_969 rfl rfl ?_
  refine p_iconst hc dL_law_970 ?_
  refine p_iadd hc dL_law_971 ?_
  refine p_sldN (j := i + 1) hc hX hbl hbA (by rw [wr_id (by omega) (by omega)]; omega) (by omega) dL_law_972 ?_
  refine p_aload_n hc 0 dL_law_973 rfl rfl ?_
  refine p_iload_n hc 3 dL_law_974 rfl rfl ?_
  refine p_iconst hc dL_law_975 ?_
  refine p_iadd hc dL_law_976 ?_
  refine p_sldN (j := i + 2) hc hX hbl hbA (by rw [wr_id (by omega) (by omega)]; omega) (by omega) dL_law_977 ?_
  refine p_cM (As := [vI (xs (i + 1)).toInt, vI (xs (i + 2)).toInt]) hc hL ml_RL_142 mv_X11_winter (fun o => c_X11_winter (eok_eoS hL.2.2.2.2.2.1 o) hL.2.2.2.2.2.2.2.2.2.2.1 (cn_i _) (cn_i _) h) rfl (by decide) (by decide) (by constructor <;> omega) (Nat.le_of_ble_eq_true rfl) rfl dL_law_978 (fun r2 υ cr2 h => ?_)
  refine p_ic_eq (tgt := 1091) hc dL_law_981 (by decide) (by rw [h.1]) ?_
  exact kk τ υ h.2
set_option maxRecDepth 20000 in
theorem lc_31 {X : jj_X} {EA EC EM : ev_E} {cells slots b L i g : Nat} {xs : Nat → Int32} {Q : State → Prop} {σc σm : st_S} (hc : Lc X code 4 RL) (hL : Lw X EA EC EM) (hX : va_X b L xs (xS X) (xS X).heap) (hbl : b < (xS X).heap.size) (hbA : ¬ eF EA b) (hi : i + 6 ≤ L) (hLL : L ≤ 3072) (hroom : cells + 10 ≤ (xR X).cells ∧ slots + 468 ≤ (xR X).slots) {R : st_S → st_S → Prop} (h : stp 31 (fun j => (xs (i + j)).toInt) σc σm R) (kk : ∀ τ υ, R τ υ → JP X (eF EA) (PL EC EM (g + 0) τ υ) 4 (cells + 0) (slots + 0) Q 1091 [(0, .ref b), (1, vR EC 0), (2, vR EM 0), (3, vI (i : Int))] []) : JP X (eF EA) (PL EC EM g σc σm) 4 cells slots Q 986 [(0, .ref b), (1, vR EC 0), (2, vR EM 0), (3, vI (i : Int))] [] := by
  replace h : wp_X10_drawn (xs (i + 1)).toInt σc (fun r τ => wp_X11_drawn (xs (i + 1)).toInt σm (fun r2 υ => r = r2 ∧ R τ υ)) := h
  refine p_aload_n hc 1 dL_law_986 rfl rfl ?_
  refine p_aload_n hc 0 dL_law_987 rfl rfl ?_
  refine p_iload_n hc 3 dL_law_988 rfl rfl ?_
  refine p_iconst hc dL_law_989 ?_
  refine p_iadd hc dL_law_990 ?_
  refine p_sldN (j := i + 1) hc hX hbl hbA (by rw [wr_id (by omega) (by omega)]; omega) (by omega) dL_law_991 ?_
  refine p_cC (As := [vI (xs (i + 1)).toInt]) hc hL ml_RL_143 mv_X10_drawn (c_X10_drawn hL.2.2.2.2.1 hL.2.2.2.2.2.2.2.2.2.1 (cn_i _) h) rfl (by decide) (by decide) (by constructor <;> omega) (Nat.le_of_ble_eq_true rfl) rfl dL_law_992 (fun r1 τ cr1 h => ?_)
  refine p_aload_n hc 2 dL_law_995 rfl rfl ?_
  refine p_aload_n hc 0 dL_law_996 rfl rfl ?_
  refine p_iload_n hc 3 dL_law_997 rfl rfl ?_
  refine p_iconst hc dL_law_998 ?_
  refine p_iadd hc dL_law_999 ?_
  refine p_sldN (j := i + 1) hc hX hbl hbA (by rw [wr_id (by omega) (by omega)]; omega) (by omega) dL_law_1000 ?_
  refine p_cM (As := [vI (xs (i + 1)).toInt]) hc hL ml_RL_146 mv_X11_drawn (fun o => c_X11_drawn (eok_eoS hL.2.2.2.2.2.1 o) hL.2.2.2.2.2.2.2.2.2.2.1 (cn_i _) h) rfl (by decide) (by decide) (by constructor <;> omega) (Nat.le_of_ble_eq_true rfl) rfl dL_law_1001 (fun r2 υ cr2 h => ?_)
  refine p_ic_eq (tgt := 1091) hc dL_law_1004 (by decide) (by rw [h.1]) ?_
  exact kk τ υ h.2
set_option maxRecDepth 20000 in
theorem lc_32 {X : jj_X} {EA EC EM : ev_E} {cells slots b L i g : Nat} {xs : Nat → Int32} {Q : State → Prop} {σc σm : st_S} (hc : Lc X code 4 RL) (hL : Lw X EA EC EM) (hX : va_X b L xs (xS X) (xS X).heap) (hbl : b < (xS X).heap.size) (hbA : ¬ eF EA b) (hi : i + 6 ≤ L) (hLL : L ≤ 3072) (hroom : cells + 10 ≤ (xR X).cells ∧ slots + 468 ≤ (xR X).slots) (hg : g + 10 < 1000000) (hMk : MkE EC (gN σc)) {R : st_S → st_S → Prop} (h : stp 32 (fun j => (xs (i + j)).toInt) σc σm R) (kk : ∀ τ υ, gN σc ≤ gN τ → R τ υ → JP X (eF EA) (PL EC EM (g + 10) τ υ) 4 (cells + 10) (slots + 184) Q 1091 [(0, .ref b), (1, vR EC 0), (2, vR EM 0), (3, vI (i : Int))] []) : JP X (eF EA) (PL EC EM g σc σm) 4 cells slots Q 1009 [(0, .ref b), (1, vR EC 0), (2, vR EM 0), (3, vI (i : Int))] [] := by
  replace h : wp_X10_image (xs (i + 1)).toInt σc (fun r τ => wp_X11_image (xs (i + 1)).toInt σm (fun r2 υ => r = r2 ∧ R τ υ)) := h
  refine p_aload_n hc 1 dL_law_1009 rfl rfl ?_
  refine p_aload_n hc 0 dL_law_1010 rfl rfl ?_
  refine p_iload_n hc 3 dL_law_1011 rfl rfl ?_
  refine p_iconst hc dL_law_1012 ?_
  refine p_iadd hc dL_law_1013 ?_
  refine p_sldN (j := i + 1) hc hX hbl hbA (by rw [wr_id (by omega) (by omega)]; omega) (by omega) dL_law_1014 ?_
  refine p_cCX (mc := 10) (ms := 184) (As := [vI (xs (i + 1)).toInt]) hc hL ml_RL_147 mv_X10_image (c_X10_image hL.2.2.2.2.1 hL.2.2.2.2.2.2.2.2.2.1 hMk (cn_i _) h) rfl (by decide) (by decide) (by omega) (by constructor <;> omega) (Nat.le_of_ble_eq_true rfl) rfl dL_law_1015 (fun r1 τ cr1 hgn h => ?_)
  refine p_aload_n hc 2 dL_law_1018 rfl rfl ?_
  refine p_aload_n hc 0 dL_law_1019 rfl rfl ?_
  refine p_iload_n hc 3 dL_law_1020 rfl rfl ?_
  refine p_iconst hc dL_law_1021 ?_
  refine p_iadd hc dL_law_1022 ?_
  refine p_sldN (j := i + 1) hc hX hbl hbA (by rw [wr_id (by omega) (by omega)]; omega) (by omega) dL_law_1023 ?_
  refine p_cM (As := [vI (xs (i + 1)).toInt]) hc hL ml_RL_150 mv_X11_image (fun o => c_X11_image (eok_eoS hL.2.2.2.2.2.1 o) hL.2.2.2.2.2.2.2.2.2.2.1 (cn_i _) h) rfl (by decide) (by decide) (by constructor <;> omega) (Nat.le_of_ble_eq_true rfl) rfl dL_law_1024 (fun r2 υ cr2 h => ?_)
  refine p_ic_eq (tgt := 1091) hc dL_law_1027 (by decide) (by rw [h.1]) ?_
  exact kk τ υ hgn h.2
set_option maxRecDepth 20000 in
theorem lc_33 {X : jj_X} {EA EC EM : ev_E} {cells slots b L i g : Nat} {xs : Nat → Int32} {Q : State → Prop} {σc σm : st_S} (hc : Lc X code 4 RL) (hL : Lw X EA EC EM) (hX : va_X b L xs (xS X) (xS X).heap) (hbl : b < (xS X).heap.size) (hbA : ¬ eF EA b) (hi : i + 6 ≤ L) (hLL : L ≤ 3072) (hroom : cells + 10 ≤ (xR X).cells ∧ slots + 468 ≤ (xR X).slots) {R : st_S → st_S → Prop} (h : stp 33 (fun j => (xs (i + j)).toInt) σc σm R) (kk : ∀ τ υ, R τ υ → JP X (eF EA) (PL EC EM (g + 0) τ υ) 4 (cells + 0) (slots + 0) Q 1091 [(0, .ref b), (1, vR EC 0), (2, vR EM 0), (3, vI (i : Int))] []) : JP X (eF EA) (PL EC EM g σc σm) 4 cells slots Q 1032 [(0, .ref b), (1, vR EC 0), (2, vR EM 0), (3, vI (i : Int))] [] := by
  replace h : wp_X10_back (xs (i + 1)).toInt σc (fun r τ => wp_X11_back (xs (i + 1)).toInt σm (fun r2 υ => r = r2 ∧ R τ υ)) := h
  refine p_aload_n hc 1 dL_law_1032 rfl rfl ?_
  refine p_aload_n hc 0 dL_law_1033 rfl rfl ?_
  refine p_iload_n hc 3 dL_law_1034 rfl rfl ?_
  refine p_iconst hc dL_law_1035 ?_
  refine p_iadd hc dL_law_1036 ?_
  refine p_sldN (j := i + 1) hc hX hbl hbA (by rw [wr_id (by omega) (by omega)]; omega) (by omega) dL_law_1037 ?_
  refine p_cC (As := [vI (xs (i + 1)).toInt]) hc hL ml_RL_151 mv_X10_back (c_X10_back hL.2.2.2.2.1 hL.2.2.2.2.2.2.2.2.2.1 (cn_i _) h) rfl (by decide) (by decide) (by constructor <;> omega) (Nat.le_of_ble_eq_true rfl) rfl dL_law_1038 (fun r1 τ cr1 h => ?_)
  refine p_aload_n hc 2 dL_law_1041 rfl rfl ?_
  refine p_aload_n hc 0 dL_law_1042 rfl rfl ?_
  refine p_iload_n hc 3 dL_law_1043 rfl rfl ?_
  refine p_iconst hc dL_law_1044 ?_
  refine p_iadd hc dL_law_1045 ?_
  refine p_sldN (j := i + 1) hc hX hbl hbA (by rw [wr_id (by omega) (by omega)]; omega) (by omega) dL_law_1046 ?_
  refine p_cM (As := [vI (xs (i + 1)).toInt]) hc hL ml_RL_154 mv_X11_back (fun o => c_X11_back (eok_eoS hL.2.2.2.2.2.1 o) hL.2.2.2.2.2.2.2.2.2.2.1 (cn_i _) h) rfl (by decide) (by decide) (by constructor <;> omega) (Nat.le_of_ble_eq_true rfl) rfl dL_law_1047 (fun r2 υ cr2 h => ?_)
  refine p_ic_eq (tgt := 1091) hc dL_law_1050 (by decide) (by rw [h.1]) ?_
  exact kk τ υ h.2
set_option maxRecDepth 20000 in
theorem lc_34 {X : jj_X} {EA EC EM : ev_E} {cells slots b L i g : Nat} {xs : Nat → Int32} {Q : State → Prop} {σc σm : st_S} (hc : Lc X code 4 RL) (hL : Lw X EA EC EM) (hX : va_X b L xs (xS X) (xS X).heap) (hbl : b < (xS X).heap.size) (hbA : ¬ eF EA b) (hi : i + 6 ≤ L) (hLL : L ≤ 3072) (hroom : cells + 10 ≤ (xR X).cells ∧ slots + 468 ≤ (xR X).slots) {R : st_S → st_S → Prop} (h : stp 34 (fun j => (xs (i + j)).toInt) σc σm R) (kk : ∀ τ υ, R τ υ → JP X (eF EA) (PL EC EM (g + 0) τ υ) 4 (cells + 0) (slots + 0) Q 1091 [(0, .ref b), (1, vR EC 0), (2, vR EM 0), (3, vI (i : Int))] []) : JP X (eF EA) (PL EC EM g σc σm) 4 cells slots Q 1055 [(0, .ref b), (1, vR EC 0), (2, vR EM 0), (3, vI (i : Int))] [] := by
  replace h : wp_X10_count (xs (i + 1)).toInt σc (fun r τ => wp_X11_count (xs (i + 1)).toInt σm (fun r2 υ => r = r2 ∧ R τ υ)) := h
  refine p_aload_n hc 1 dL_law_1055 rfl rfl ?_
  refine p_aload_n hc 0 dL_law_1056 rfl rfl ?_
  refine p_iload_n hc 3 dL_law_1057 rfl rfl ?_
  refine p_iconst hc dL_law_1058 ?_
  refine p_iadd hc dL_law_1059 ?_
  refine p_sldN (j := i + 1) hc hX hbl hbA (by rw [wr_id (by omega) (by omega)]; omega) (by omega) dL_law_1060 ?_
  refine p_cC (As := [vI (xs (i + 1)).toInt]) hc hL ml_RL_155 mv_X10_count (c_X10_count hL.2.2.2.2.1 hL.2.2.2.2.2.2.2.2.2.1 (cn_i _) h) rfl (by decide) (by decide) (by constructor <;> omega) (Nat.le_of_ble_eq_true rfl) rfl dL_law_1061 (fun r1 τ cr1 h => ?_)
  refine p_aload_n hc 2 dL_law_1064 rfl rfl ?_
  refine p_aload_n hc 0 dL_law_1065 rfl rfl ?_
  refine p_iload_n hc 3 dL_law_1066 rfl rfl ?_
  refine p_iconst hc dL_law_1067 ?_
  refine p_iadd hc dL_law_1068 ?_
  refine p_sldN (j := i + 1) hc hX hbl hbA (by rw [wr_id (by omega) (by omega)]; omega) (by omega) dL_law_1069 ?_
  refine p_cM (As := [vI (xs (i + 1)).toInt]) hc hL ml_RL_158 mv_X11_count (fun o => c_X11_count (eok_eoS hL.2.2.2.2.2.1 o) hL.2.2.2.2.2.2.2.2.2.2.1 (cn_i _) h) rfl (by decide) (by decide) (by constructor <;> omega) (Nat.le_of_ble_eq_true rfl) rfl dL_law_1070 (fun r2 υ cr2 h => ?_)
  refine p_ic_eq (tgt := 1091) hc dL_law_1073 (by decide) (by rw [h.1]) ?_
  exact kk τ υ h.2
set_option maxRecDepth 20000 in
theorem lc_35 {X : jj_X} {EA EC EM : ev_E} {cells slots b L i g : Nat} {xs : Nat → Int32} {Q : State → Prop} {σc σm : st_S} (hc : Lc X code 4 RL) (hL : Lw X EA EC EM) (hX : va_X b L xs (xS X) (xS X).heap) (hbl : b < (xS X).heap.size) (hbA : ¬ eF EA b) (hi : i + 6 ≤ L) (hLL : L ≤ 3072) (hroom : cells + 10 ≤ (xR X).cells ∧ slots + 468 ≤ (xR X).slots) {R : st_S → st_S → Prop} (h : stp 35 (fun j => (xs (i + j)).toInt) σc σm R) (kk : ∀ τ υ, R τ υ → JP X (eF EA) (PL EC EM (g + 0) τ υ) 4 (cells + 0) (slots + 0) Q 1091 [(0, .ref b), (1, vR EC 0), (2, vR EM 0), (3, vI (i : Int))] []) : JP X (eF EA) (PL EC EM g σc σm) 4 cells slots Q 1078 [(0, .ref b), (1, vR EC 0), (2, vR EM 0), (3, vI (i : Int))] [] := by
  replace h : wp_X10_status  σc (fun r τ => wp_X11_status  σm (fun r2 υ => r = r2 ∧ R τ υ)) := h
  refine p_aload_n hc 1 dL_law_1078 rfl rfl ?_
  refine p_cC (As := []) hc hL ml_RL_159 mv_X10_status (c_X10_status hL.2.2.2.2.1 hL.2.2.2.2.2.2.2.2.2.1  h) rfl (by decide) (by decide) (by constructor <;> omega) (Nat.le_of_ble_eq_true rfl) rfl dL_law_1079 (fun r1 τ cr1 h => ?_)
  refine p_aload_n hc 2 dL_law_1082 rfl rfl ?_
  refine p_cM (As := []) hc hL ml_RL_162 mv_X11_status (fun o => c_X11_status (eok_eoS hL.2.2.2.2.2.1 o) hL.2.2.2.2.2.2.2.2.2.2.1  h) rfl (by decide) (by decide) (by constructor <;> omega) (Nat.le_of_ble_eq_true rfl) rfl dL_law_1083 (fun r2 υ cr2 h => ?_)
  refine p_ic_eq (tgt := 1091) hc dL_law_1086 (by decide) (by rw [h.1]) ?_
  exact kk τ υ h.2
