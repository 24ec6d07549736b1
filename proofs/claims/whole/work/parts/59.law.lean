section LAW
variable {X : zC} {w : zV} {Q : State → Prop} {k n b L N : Nat} {xs q : Nat → Int32} {i : Int32} {h0 : zH} {σ σ' : LgT} {ρ ρ' : MdT} {u : Nat → Int64}
theorem lc_append (hN : 396 ≤ N) (hC : lw_C X w b L xs) (hs : lw_sc L xs i q) (hk : k + 12 ≤ 601024) (hn : n + 1000 ≤ 7293033) {v b9 : Int32} (hf : f_X8_append σ (q 1) (q 2) (q 3) (q 4) (q 5) = some (v, σ')) (hg : g_X9_append ρ (q 1) (q 2) (q 3) (q 4) (q 5) = some (b9, ρ')) (hv : v = b9) (kk : lw_N X w Q b i N h0 k n σ' ρ') : zZ X w Q k n false N (gW w h0 σ ρ u) 248 (lw_lv w b i) [] := by
  obtain ⟨C, hX, hb, hw⟩ := hC
  refine z_aload_n (pc' := 249) C 3 dL_law_248 rfl rfl rfl ?_
  refine z_aload_n (pc' := 250) C 4 dL_law_249 rfl rfl rfl ?_
  refine z_iload (pc' := 252) C 0 dL_law_250 rfl rfl ?_
  refine z_iconst (pc' := 253) C dL_law_252 zk_iconst_1 rfl ?_
  refine z_iadd (pc' := 254) C dL_law_253 rfl ?_
  refine z_sld (pc' := 255) C hX hb hw (v := q 1) (hs 1 (by decide)) dL_law_254 rfl ?_
  refine z_aload_n (pc' := 256) C 4 dL_law_255 rfl rfl rfl ?_
  refine z_iload (pc' := 258) C 0 dL_law_256 rfl rfl ?_
  refine z_iconst (pc' := 259) C dL_law_258 zk_iconst_2 rfl ?_
  refine z_iadd (pc' := 260) C dL_law_259 rfl ?_
  refine z_sld (pc' := 261) C hX hb hw (v := q 2) (hs 2 (by decide)) dL_law_260 rfl ?_
  refine z_aload_n (pc' := 262) C 4 dL_law_261 rfl rfl rfl ?_
  refine z_iload (pc' := 264) C 0 dL_law_262 rfl rfl ?_
  refine z_iconst (pc' := 265) C dL_law_264 zk_iconst_3 rfl ?_
  refine z_iadd (pc' := 266) C dL_law_265 rfl ?_
  refine z_sld (pc' := 267) C hX hb hw (v := q 3) (hs 3 (by decide)) dL_law_266 rfl ?_
  refine z_aload_n (pc' := 268) C 4 dL_law_267 rfl rfl rfl ?_
  refine z_iload (pc' := 270) C 0 dL_law_268 rfl rfl ?_
  refine z_iconst (pc' := 271) C dL_law_270 zk_iconst_4 rfl ?_
  refine z_iadd (pc' := 272) C dL_law_271 rfl ?_
  refine z_sld (pc' := 273) C hX hb hw (v := q 4) (hs 4 (by decide)) dL_law_272 rfl ?_
  refine z_aload_n (pc' := 274) C 4 dL_law_273 rfl rfl rfl ?_
  refine z_iload (pc' := 276) C 0 dL_law_274 rfl rfl ?_
  refine z_iconst (pc' := 277) C dL_law_276 zk_iconst_5 rfl ?_
  refine z_iadd (pc' := 278) C dL_law_277 rfl ?_
  refine z_sld (pc' := 279) C hX hb hw (v := q 5) (hs 5 (by decide)) dL_law_278 rfl ?_
  refine z_callV (pc' := 282) (st := []) (h' := gW w h0 σ' ρ u) C (c_X8_append (a := 0) (N := N) (h := zu h0 389 (mL w ρ u)) (σ := σ) (r := (v, σ')) (by omega) hf) zy_X8_append zw_333 zw_334 zw_335 (ci := 8) rfl (lg_0 (a := 0) (by omega)) rfl rfl rfl rfl (room_ok hk hn (by dsimp only [zrx, zr]; omega) (by dsimp only [zrx, zr]; omega)) dL_law_279 rfl ?_
  refine z_aload_n (pc' := 283) C 2 dL_law_282 rfl rfl rfl ?_
  refine z_aload_n (pc' := 284) C 4 dL_law_283 rfl rfl rfl ?_
  refine z_iload (pc' := 286) C 0 dL_law_284 rfl rfl ?_
  refine z_iconst (pc' := 287) C dL_law_286 zk_iconst_1 rfl ?_
  refine z_iadd (pc' := 288) C dL_law_287 rfl ?_
  refine z_sld (pc' := 289) C hX hb hw (v := q 1) (hs 1 (by decide)) dL_law_288 rfl ?_
  refine z_aload_n (pc' := 290) C 4 dL_law_289 rfl rfl rfl ?_
  refine z_iload (pc' := 292) C 0 dL_law_290 rfl rfl ?_
  refine z_iconst (pc' := 293) C dL_law_292 zk_iconst_2 rfl ?_
  refine z_iadd (pc' := 294) C dL_law_293 rfl ?_
  refine z_sld (pc' := 295) C hX hb hw (v := q 2) (hs 2 (by decide)) dL_law_294 rfl ?_
  refine z_aload_n (pc' := 296) C 4 dL_law_295 rfl rfl rfl ?_
  refine z_iload (pc' := 298) C 0 dL_law_296 rfl rfl ?_
  refine z_iconst (pc' := 299) C dL_law_298 zk_iconst_3 rfl ?_
  refine z_iadd (pc' := 300) C dL_law_299 rfl ?_
  refine z_sld (pc' := 301) C hX hb hw (v := q 3) (hs 3 (by decide)) dL_law_300 rfl ?_
  refine z_aload_n (pc' := 302) C 4 dL_law_301 rfl rfl rfl ?_
  refine z_iload (pc' := 304) C 0 dL_law_302 rfl rfl ?_
  refine z_iconst (pc' := 305) C dL_law_304 zk_iconst_4 rfl ?_
  refine z_iadd (pc' := 306) C dL_law_305 rfl ?_
  refine z_sld (pc' := 307) C hX hb hw (v := q 4) (hs 4 (by decide)) dL_law_306 rfl ?_
  refine z_aload_n (pc' := 308) C 4 dL_law_307 rfl rfl rfl ?_
  refine z_iload (pc' := 310) C 0 dL_law_308 rfl rfl ?_
  refine z_iconst (pc' := 311) C dL_law_310 zk_iconst_5 rfl ?_
  refine z_iadd (pc' := 312) C dL_law_311 rfl ?_
  refine z_sld (pc' := 313) C hX hb hw (v := q 5) (hs 5 (by decide)) dL_law_312 rfl ?_
  refine z_callV (pc' := 316) (st := [.int v]) (h' := gW w h0 σ' ρ' u) C (d_X9_append hN  hg) zy_X9_append zw_1240 zw_1241 zw_1242 (ci := 9) rfl (gW_c (k := 0) (by omega) rfl) rfl rfl rfl rfl (room_ok hk hn (by dsimp only [zrx, zr]; omega) (by dsimp only [zrx, zr]; omega)) dL_law_313 rfl ?_
  refine z_icmp_eq (pc' := 319) C 2707 (if_pos hv : (if _ = _ then some () else (none : Option Unit)) = some ()) dL_law_316 rfl rfl (fun _ _ => ?_) (fun q _ => absurd hv q)
  refine z_pick (lv' := lw_lv w b i) [0, 1, 2, 3, 4] rfl ?_
  exact kk _ _ _ (by dsimp only [zrx, zr]; omega) (by dsimp only [zrx, zr]; omega)
theorem lc_load (hN : 396 ≤ N) (hC : lw_C X w b L xs) (hs : lw_sc L xs i q) (hk : k + 12 ≤ 601024) (hn : n + 1000 ≤ 7293033) {tb : Nat} {te : va_E} (hTa : 389 ≤ tb) (hTb : N ≤ tb + 1) (hTc : zc N (gW w h0 σ ρ u) tb te) (hTj : zj te = true) (hga : rj_rd_ga σ.2.2.1 + 1 < N) {v b9 : Int32} {s : Nat → LgT} {q_17 : LdT} (h8 : f_X8_checkRange (q 1) (0 : Int32) (rj_rd_filled σ.2.2.1) = some (.inr ())) (hq : ld_q σ (q 1) = some q_17) (hf : ∀ g, ld_20 σ (q 1) q_17 g = some (v, s g)) (hg : g_X9_load ρ (q 1) = some (b9, ρ')) (ht : md_thrown ρ' = 0) (hv : v.toInt64 = b9.toInt64) (kk : ∀ g, N ≤ g → lw_N X w Q b i (g + 3) (ld_H w N h0 σ (q 1) q_17 g) k n (s g) ρ') : zZ X w Q k n false N (gW w h0 σ ρ u) 321 (lw_lv w b i) [] := by
  obtain ⟨C, hX, hb, hw⟩ := hC
  have hg9 := hg
  refine z_aload_n (pc' := 322) C 3 dL_law_321 rfl rfl rfl ?_
  refine z_aload_n (pc' := 323) C 4 dL_law_322 rfl rfl rfl ?_
  refine z_iload (pc' := 325) C 0 dL_law_323 rfl rfl ?_
  refine z_iconst (pc' := 326) C dL_law_325 zk_iconst_1 rfl ?_
  refine z_iadd (pc' := 327) C dL_law_326 rfl ?_
  refine z_sld (pc' := 328) C hX hb hw (v := q 1) (hs 1 (by decide)) dL_law_327 rfl ?_
  refine z_aload_n (pc' := 329) C 1 dL_law_328 rfl rfl rfl ?_
  refine z_callSWP (pc' := 332) (m := 3) (st := []) C (c_L_load (a := 0) (c0 := 395) (N := N) (by omega) (by omega) (zc_w (a := 389) (o := 6) (by omega) rfl) (by omega) hTb hTc hTj hga h8 hq hf) zw_444 zw_0 (by decide +kernel) zw_442 zw_443 rfl rfl rfl rfl (room_ok hk hn (by dsimp only [zrx, zr]; omega) (by dsimp only [zrx, zr]; omega)) dL_law_329 rfl (fun N1 h1 hP1 => ?_)
  obtain ⟨g, hg, rfl, rfl⟩ := hP1
  refine z_eq (gW_ld hN hg) ?_
  have hN : 396 ≤ g + 3 := by omega
  refine z_istore (pc' := 334) C _ dL_law_332 rfl rfl rfl ?_
  refine z_aload_n (pc' := 335) C 3 dL_law_334 rfl rfl rfl ?_
  refine z_aload_n (pc' := 336) C 5 dL_law_335 rfl rfl rfl ?_
  refine z_iload (pc' := 338) C 1 dL_law_336 rfl rfl ?_
  refine z_iconst (pc' := 339) C dL_law_338 zk_iconst_1 rfl ?_
  refine z_iadd (pc' := 340) C dL_law_339 rfl ?_
  refine z_sld (pc' := 341) C hX hb hw (v := q 1) (hs 1 (by decide)) dL_law_340 rfl ?_
  refine z_callV (pc' := 344) (st := []) (h' := gW w (ld_H w N h0 σ (q 1) q_17 g) (s g) ρ' (vp_updL u 0 (v.toInt64))) C (d_X9_load hN  hg9) zy_X9_load zw_1244 zw_1245 zw_1246 (ci := 9) rfl (gW_c (k := 0) (by omega) rfl) rfl rfl rfl rfl (room_ok hk hn (by dsimp only [zrx, zr]; omega) (by dsimp only [zrx, zr]; omega)) dL_law_341 rfl ?_
  refine z_istore (pc' := 346) C _ dL_law_344 rfl rfl rfl ?_
  refine z_aload_n (pc' := 347) C 4 dL_law_346 rfl rfl rfl ?_
  refine z_callV (pc' := 350) (st := []) (h' := gW w (ld_H w N h0 σ (q 1) q_17 g) (s g) ρ' (vp_updL u 0 (v.toInt64))) C (d_X9_thrown hN (v := md_thrown ρ') rfl) zy_X9_thrown zw_1236 zw_1237 zw_1238 (ci := 9) rfl (gW_c (k := 0) (by omega) rfl) rfl rfl rfl rfl (room_ok hk hn (by dsimp only [zrx, zr]; omega) (by dsimp only [zrx, zr]; omega)) dL_law_347 rfl ?_
  refine z_iload (pc' := 352) C 1 dL_law_350 rfl rfl ?_
  refine z_icmp_eq (pc' := 355) C 357 (if_pos ht : (if _ = _ then some () else (none : Option Unit)) = some ()) dL_law_352 rfl rfl (fun _ _ => ?_) (fun q _ => absurd ht q)
  refine z_iload (pc' := 359) C 1 dL_law_357 rfl rfl ?_
  refine z_if_ne (pc' := 362) C 374 (if_pos rfl : (if (0 : Int32) = 0 then some () else (none : Option Unit)) = some ()) dL_law_359 rfl rfl (fun q _ => absurd rfl q) (fun _ _ => ?_)
  refine z_aload_n (pc' := 363) C 3 dL_law_362 rfl rfl rfl ?_
  refine z_iconst (pc' := 364) C dL_law_363 zk_iconst_0 rfl ?_
  refine z_lald (pc' := 365) C (K := fun v => some v) rfl (gW_c (k := 6) (by omega) rfl) dL_law_364 rfl (fun v0 hv0 => ?_)
  cases hv0
  refine z_iload (pc' := 367) C 0 dL_law_365 rfl rfl ?_
  refine z_i2l (pc' := 368) C dL_law_367 rfl ?_
  refine z_lcmp_eq (pc' := 372) (pc1 := 369) C 374 (if_pos hv : (if _ = _ then some () else (none : Option Unit)) = some ()) dL_law_368 rfl dL_law_369 rfl rfl (fun _ _ => ?_) (fun q _ => absurd hv q)
  refine z_goto C 2707 dL_law_374 rfl ?_
  refine z_pick (lv' := lw_lv w b i) [2, 3, 4, 5, 6] rfl ?_
  exact kk g hg _ _ _ (by dsimp only [zrx, zr]; omega) (by dsimp only [zrx, zr]; omega)
theorem lc_load_x1 (hN : 396 ≤ N) (hC : lw_C X w b L xs) (hs : lw_sc L xs i q) (hk : k + 12 ≤ 601024) (hn : n + 1000 ≤ 7293033) {b9 : Int32} (h8 : f_X8_checkRange (q 1) (0 : Int32) (rj_rd_filled σ.2.2.1) = some (.inl "java/lang/IllegalArgumentException")) (hg : g_X9_load ρ (q 1) = some (b9, ρ')) (ht : md_thrown ρ' = 1) (kk : lw_N X w Q b i N h0 k n σ ρ') : zZ X w Q k n false N (gW w h0 σ ρ u) 321 (lw_lv w b i) [] := by
  obtain ⟨C, hX, hb, hw⟩ := hC
  refine z_aload_n (pc' := 322) C 3 dL_law_321 rfl rfl rfl ?_
  refine z_aload_n (pc' := 323) C 4 dL_law_322 rfl rfl rfl ?_
  refine z_iload (pc' := 325) C 0 dL_law_323 rfl rfl ?_
  refine z_iconst (pc' := 326) C dL_law_325 zk_iconst_1 rfl ?_
  refine z_iadd (pc' := 327) C dL_law_326 rfl ?_
  refine z_sld (pc' := 328) C hX hb hw (v := q 1) (hs 1 (by decide)) dL_law_327 rfl ?_
  refine z_aload_n (pc' := 329) C 1 dL_law_328 rfl rfl rfl ?_
  refine z_callSW (pc' := 332) (m := 3) (st := []) (h' := gW w h0 σ ρ u) C (c_L_load_1 (a := 0) (c0 := 395) (N := N) (by omega) (by omega) (zc_w (a := 389) (o := 6) (by omega) rfl) h8) zw_444 zw_0 (by decide +kernel) zw_442 zw_443 rfl rfl rfl rfl (room_ok hk hn (by dsimp only [zrx, zr]; omega) (by dsimp only [zrx, zr]; omega)) dL_law_329 rfl ?_
  refine z_istore (pc' := 334) C _ dL_law_332 rfl rfl rfl ?_
  refine z_aload_n (pc' := 335) C 3 dL_law_334 rfl rfl rfl ?_
  refine z_aload_n (pc' := 336) C 5 dL_law_335 rfl rfl rfl ?_
  refine z_iload (pc' := 338) C 1 dL_law_336 rfl rfl ?_
  refine z_iconst (pc' := 339) C dL_law_338 zk_iconst_1 rfl ?_
  refine z_iadd (pc' := 340) C dL_law_339 rfl ?_
  refine z_sld (pc' := 341) C hX hb hw (v := q 1) (hs 1 (by decide)) dL_law_340 rfl ?_
  refine z_callV (pc' := 344) (st := []) (h' := gW w h0 σ ρ' u) C (d_X9_load hN  hg) zy_X9_load zw_1244 zw_1245 zw_1246 (ci := 9) rfl (gW_c (k := 0) (by omega) rfl) rfl rfl rfl rfl (room_ok hk hn (by dsimp only [zrx, zr]; omega) (by dsimp only [zrx, zr]; omega)) dL_law_341 rfl ?_
  refine z_istore (pc' := 346) C _ dL_law_344 rfl rfl rfl ?_
  refine z_aload_n (pc' := 347) C 4 dL_law_346 rfl rfl rfl ?_
  refine z_callV (pc' := 350) (st := []) (h' := gW w h0 σ ρ' u) C (d_X9_thrown hN (v := md_thrown ρ') rfl) zy_X9_thrown zw_1236 zw_1237 zw_1238 (ci := 9) rfl (gW_c (k := 0) (by omega) rfl) rfl rfl rfl rfl (room_ok hk hn (by dsimp only [zrx, zr]; omega) (by dsimp only [zrx, zr]; omega)) dL_law_347 rfl ?_
  refine z_iload (pc' := 352) C 1 dL_law_350 rfl rfl ?_
  refine z_icmp_eq (pc' := 355) C 357 (if_pos ht : (if _ = _ then some () else (none : Option Unit)) = some ()) dL_law_352 rfl rfl (fun _ _ => ?_) (fun q _ => absurd ht q)
  refine z_iload (pc' := 359) C 1 dL_law_357 rfl rfl ?_
  refine z_if_ne (pc' := 362) C 374 (if_neg (by decide) : (if (1 : Int32) = 0 then (none : Option Unit) else some ()) = some ()) dL_law_359 rfl rfl (fun _ _ => ?_) (fun q _ => absurd q (by decide))
  refine z_goto C 2707 dL_law_374 rfl ?_
  refine z_pick (lv' := lw_lv w b i) [2, 3, 4, 5, 6] rfl ?_
  exact kk _ _ _ (by dsimp only [zrx, zr]; omega) (by dsimp only [zrx, zr]; omega)
theorem lc_errorOffset (hN : 396 ≤ N) (hC : lw_C X w b L xs) (hs : lw_sc L xs i q) (hk : k + 12 ≤ 601024) (hn : n + 1000 ≤ 7293033) {v b9 : Int32} (hf : f_X8_errorOffset σ  = some v) (hg : g_X9_errorOffset ρ  = some (b9, ρ')) (hv : v = b9) (kk : lw_N X w Q b i N h0 k n σ ρ') : zZ X w Q k n false N (gW w h0 σ ρ u) 377 (lw_lv w b i) [] := by
  obtain ⟨C, hX, hb, hw⟩ := hC
  refine z_aload_n (pc' := 378) C 3 dL_law_377 rfl rfl rfl ?_
  refine z_callV (pc' := 381) (st := []) (h' := gW w h0 σ ρ u) C (c_X8_errorOffset (a := 0) (N := N) (h := zu h0 389 (mL w ρ u)) (σ := σ) (by omega) hf) zy_X8_errorOffset zw_341 zw_342 zw_343 (ci := 8) rfl (lg_0 (a := 0) (by omega)) rfl rfl rfl rfl (room_ok hk hn (by dsimp only [zrx, zr]; omega) (by dsimp only [zrx, zr]; omega)) dL_law_378 rfl ?_
  refine z_aload_n (pc' := 382) C 2 dL_law_381 rfl rfl rfl ?_
  refine z_callV (pc' := 385) (st := [.int v]) (h' := gW w h0 σ ρ' u) C (d_X9_errorOffset hN  hg) zy_X9_errorOffset zw_1361 zw_1362 zw_1363 (ci := 9) rfl (gW_c (k := 0) (by omega) rfl) rfl rfl rfl rfl (room_ok hk hn (by dsimp only [zrx, zr]; omega) (by dsimp only [zrx, zr]; omega)) dL_law_382 rfl ?_
  refine z_icmp_eq (pc' := 388) C 2707 (if_pos hv : (if _ = _ then some () else (none : Option Unit)) = some ()) dL_law_385 rfl rfl (fun _ _ => ?_) (fun q _ => absurd hv q)
  refine z_pick (lv' := lw_lv w b i) [0, 1, 2, 3, 4] rfl ?_
  exact kk _ _ _ (by dsimp only [zrx, zr]; omega) (by dsimp only [zrx, zr]; omega)
theorem lc_day (hN : 396 ≤ N) (hC : lw_C X w b L xs) (hs : lw_sc L xs i q) (hk : k + 12 ≤ 601024) (hn : n + 1000 ≤ 7293033) {v b9 : Int32} (hf : f_X8_day σ  = some v) (hg : g_X9_day ρ  = some (b9, ρ')) (hv : v = b9) (kk : lw_N X w Q b i N h0 k n σ ρ') : zZ X w Q k n false N (gW w h0 σ ρ u) 390 (lw_lv w b i) [] := by
  obtain ⟨C, hX, hb, hw⟩ := hC
  refine z_aload_n (pc' := 391) C 3 dL_law_390 rfl rfl rfl ?_
  refine z_callV (pc' := 394) (st := []) (h' := gW w h0 σ ρ u) C (c_X8_day (a := 0) (N := N) (h := zu h0 389 (mL w ρ u)) (σ := σ) (by omega) hf) zy_X8_day zw_345 zw_346 zw_347 (ci := 8) rfl (lg_0 (a := 0) (by omega)) rfl rfl rfl rfl (room_ok hk hn (by dsimp only [zrx, zr]; omega) (by dsimp only [zrx, zr]; omega)) dL_law_391 rfl ?_
  refine z_aload_n (pc' := 395) C 2 dL_law_394 rfl rfl rfl ?_
  refine z_callV (pc' := 398) (st := [.int v]) (h' := gW w h0 σ ρ' u) C (d_X9_day hN  hg) zy_X9_day zw_1365 zw_1366 zw_1367 (ci := 9) rfl (gW_c (k := 0) (by omega) rfl) rfl rfl rfl rfl (room_ok hk hn (by dsimp only [zrx, zr]; omega) (by dsimp only [zrx, zr]; omega)) dL_law_395 rfl ?_
  refine z_icmp_eq (pc' := 401) C 2707 (if_pos hv : (if _ = _ then some () else (none : Option Unit)) = some ()) dL_law_398 rfl rfl (fun _ _ => ?_) (fun q _ => absurd hv q)
  refine z_pick (lv' := lw_lv w b i) [0, 1, 2, 3, 4] rfl ?_
  exact kk _ _ _ (by dsimp only [zrx, zr]; omega) (by dsimp only [zrx, zr]; omega)
theorem lc_contractCount (hN : 396 ≤ N) (hC : lw_C X w b L xs) (hs : lw_sc L xs i q) (hk : k + 12 ≤ 601024) (hn : n + 1000 ≤ 7293033) {v b9 : Int32} (hf : f_X8_contractCount σ  = some v) (hg : g_X9_contractCount ρ  = some (b9, ρ')) (hv : v = b9) (kk : lw_N X w Q b i N h0 k n σ ρ') : zZ X w Q k n false N (gW w h0 σ ρ u) 403 (lw_lv w b i) [] := by
  obtain ⟨C, hX, hb, hw⟩ := hC
  refine z_aload_n (pc' := 404) C 3 dL_law_403 rfl rfl rfl ?_
  refine z_callV (pc' := 407) (st := []) (h' := gW w h0 σ ρ u) C (c_X8_contractCount (a := 0) (N := N) (h := zu h0 389 (mL w ρ u)) (σ := σ) (by omega) hf) zy_X8_contractCount zw_353 zw_354 zw_355 (ci := 8) rfl (lg_0 (a := 0) (by omega)) rfl rfl rfl rfl (room_ok hk hn (by dsimp only [zrx, zr]; omega) (by dsimp only [zrx, zr]; omega)) dL_law_404 rfl ?_
  refine z_aload_n (pc' := 408) C 2 dL_law_407 rfl rfl rfl ?_
  refine z_callV (pc' := 411) (st := [.int v]) (h' := gW w h0 σ ρ' u) C (d_X9_contractCount hN  hg) zy_X9_contractCount zw_1369 zw_1370 zw_1371 (ci := 9) rfl (gW_c (k := 0) (by omega) rfl) rfl rfl rfl rfl (room_ok hk hn (by dsimp only [zrx, zr]; omega) (by dsimp only [zrx, zr]; omega)) dL_law_408 rfl ?_
  refine z_icmp_eq (pc' := 414) C 2707 (if_pos hv : (if _ = _ then some () else (none : Option Unit)) = some ()) dL_law_411 rfl rfl (fun _ _ => ?_) (fun q _ => absurd hv q)
  refine z_pick (lv' := lw_lv w b i) [0, 1, 2, 3, 4] rfl ?_
  exact kk _ _ _ (by dsimp only [zrx, zr]; omega) (by dsimp only [zrx, zr]; omega)
theorem lc_parent (hN : 396 ≤ N) (hC : lw_C X w b L xs) (hs : lw_sc L xs i q) (hk : k + 12 ≤ 601024) (hn : n + 1000 ≤ 7293033) {v : Int32} {b9 : Int32} (hf : f_X8_parent σ (q 1) = some (.inr v)) (hg : g_X9_parent ρ (q 1) = some (b9, ρ')) (ht : md_thrown ρ' = 0) (hv : v.toInt64 = b9.toInt64) (kk : lw_N X w Q b i N h0 k n σ ρ') : zZ X w Q k n false N (gW w h0 σ ρ u) 416 (lw_lv w b i) [] := by
  obtain ⟨C, hX, hb, hw⟩ := hC
  refine z_aload_n (pc' := 417) C 3 dL_law_416 rfl rfl rfl ?_
  refine z_aload_n (pc' := 418) C 4 dL_law_417 rfl rfl rfl ?_
  refine z_iload (pc' := 420) C 0 dL_law_418 rfl rfl ?_
  refine z_iconst (pc' := 421) C dL_law_420 zk_iconst_1 rfl ?_
  refine z_iadd (pc' := 422) C dL_law_421 rfl ?_
  refine z_sld (pc' := 423) C hX hb hw (v := q 1) (hs 1 (by decide)) dL_law_422 rfl ?_
  refine z_aload_n (pc' := 424) C 1 dL_law_423 rfl rfl rfl ?_
  refine z_callSW (pc' := 427) (m := 3) (st := []) (h' := gW w h0 σ ρ (vp_updL u 0 (v.toInt64))) C (zMw_eq gW_o (c_L_parent (a := 0) (c0 := 395) (N := N) (by omega) (by omega) (zc_w (a := 389) (o := 6) (by omega) rfl) hf)) zw_701 zw_0 (by decide +kernel) zw_699 zw_700 rfl rfl rfl rfl (room_ok hk hn (by dsimp only [zrx, zr]; omega) (by dsimp only [zrx, zr]; omega)) dL_law_424 rfl ?_
  refine z_istore (pc' := 429) C _ dL_law_427 rfl rfl rfl ?_
  refine z_aload_n (pc' := 430) C 3 dL_law_429 rfl rfl rfl ?_
  refine z_aload_n (pc' := 431) C 5 dL_law_430 rfl rfl rfl ?_
  refine z_iload (pc' := 433) C 1 dL_law_431 rfl rfl ?_
  refine z_iconst (pc' := 434) C dL_law_433 zk_iconst_1 rfl ?_
  refine z_iadd (pc' := 435) C dL_law_434 rfl ?_
  refine z_sld (pc' := 436) C hX hb hw (v := q 1) (hs 1 (by decide)) dL_law_435 rfl ?_
  refine z_callV (pc' := 439) (st := []) (h' := gW w h0 σ ρ' (vp_updL u 0 (v.toInt64))) C (d_X9_parent hN  hg) zy_X9_parent zw_1373 zw_1374 zw_1375 (ci := 9) rfl (gW_c (k := 0) (by omega) rfl) rfl rfl rfl rfl (room_ok hk hn (by dsimp only [zrx, zr]; omega) (by dsimp only [zrx, zr]; omega)) dL_law_436 rfl ?_
  refine z_istore (pc' := 441) C _ dL_law_439 rfl rfl rfl ?_
  refine z_aload_n (pc' := 442) C 4 dL_law_441 rfl rfl rfl ?_
  refine z_callV (pc' := 445) (st := []) (h' := gW w h0 σ ρ' (vp_updL u 0 (v.toInt64))) C (d_X9_thrown hN (v := md_thrown ρ') rfl) zy_X9_thrown zw_1236 zw_1237 zw_1238 (ci := 9) rfl (gW_c (k := 0) (by omega) rfl) rfl rfl rfl rfl (room_ok hk hn (by dsimp only [zrx, zr]; omega) (by dsimp only [zrx, zr]; omega)) dL_law_442 rfl ?_
  refine z_iload (pc' := 447) C 1 dL_law_445 rfl rfl ?_
  refine z_icmp_eq (pc' := 450) C 452 (if_pos ht : (if _ = _ then some () else (none : Option Unit)) = some ()) dL_law_447 rfl rfl (fun _ _ => ?_) (fun q _ => absurd ht q)
  refine z_iload (pc' := 454) C 1 dL_law_452 rfl rfl ?_
  refine z_if_ne (pc' := 457) C 469 (if_pos rfl : (if (0 : Int32) = 0 then some () else (none : Option Unit)) = some ()) dL_law_454 rfl rfl (fun q _ => absurd rfl q) (fun _ _ => ?_)
  refine z_aload_n (pc' := 458) C 3 dL_law_457 rfl rfl rfl ?_
  refine z_iconst (pc' := 459) C dL_law_458 zk_iconst_0 rfl ?_
  refine z_lald (pc' := 460) C (K := fun v => some v) rfl (gW_c (k := 6) (by omega) rfl) dL_law_459 rfl (fun v0 hv0 => ?_)
  cases hv0
  refine z_iload (pc' := 462) C 0 dL_law_460 rfl rfl ?_
  refine z_i2l (pc' := 463) C dL_law_462 rfl ?_
  refine z_lcmp_eq (pc' := 467) (pc1 := 464) C 469 (if_pos hv : (if _ = _ then some () else (none : Option Unit)) = some ()) dL_law_463 rfl dL_law_464 rfl rfl (fun _ _ => ?_) (fun q _ => absurd hv q)
  refine z_goto C 2707 dL_law_469 rfl ?_
  refine z_pick (lv' := lw_lv w b i) [2, 3, 4, 5, 6] rfl ?_
  exact kk _ _ _ (by dsimp only [zrx, zr]; omega) (by dsimp only [zrx, zr]; omega)
theorem lc_parent_x1 (hN : 396 ≤ N) (hC : lw_C X w b L xs) (hs : lw_sc L xs i q) (hk : k + 12 ≤ 601024) (hn : n + 1000 ≤ 7293033) {b9 : Int32} (hf : f_X8_parent σ (q 1) = some (.inl "java/lang/IndexOutOfBoundsException")) (hg : g_X9_parent ρ (q 1) = some (b9, ρ')) (ht : md_thrown ρ' = 1) (kk : lw_N X w Q b i N h0 k n σ ρ') : zZ X w Q k n false N (gW w h0 σ ρ u) 416 (lw_lv w b i) [] := by
  obtain ⟨C, hX, hb, hw⟩ := hC
  refine z_aload_n (pc' := 417) C 3 dL_law_416 rfl rfl rfl ?_
  refine z_aload_n (pc' := 418) C 4 dL_law_417 rfl rfl rfl ?_
  refine z_iload (pc' := 420) C 0 dL_law_418 rfl rfl ?_
  refine z_iconst (pc' := 421) C dL_law_420 zk_iconst_1 rfl ?_
  refine z_iadd (pc' := 422) C dL_law_421 rfl ?_
  refine z_sld (pc' := 423) C hX hb hw (v := q 1) (hs 1 (by decide)) dL_law_422 rfl ?_
  refine z_aload_n (pc' := 424) C 1 dL_law_423 rfl rfl rfl ?_
  refine z_callSW (pc' := 427) (m := 3) (st := []) (h' := gW w h0 σ ρ u) C (c_L_parent_1 (a := 0) (c0 := 395) (N := N) (by omega) (by omega) (zc_w (a := 389) (o := 6) (by omega) rfl) hf) zw_701 zw_0 (by decide +kernel) zw_699 zw_700 rfl rfl rfl rfl (room_ok hk hn (by dsimp only [zrx, zr]; omega) (by dsimp only [zrx, zr]; omega)) dL_law_424 rfl ?_
  refine z_istore (pc' := 429) C _ dL_law_427 rfl rfl rfl ?_
  refine z_aload_n (pc' := 430) C 3 dL_law_429 rfl rfl rfl ?_
  refine z_aload_n (pc' := 431) C 5 dL_law_430 rfl rfl rfl ?_
  refine z_iload (pc' := 433) C 1 dL_law_431 rfl rfl ?_
  refine z_iconst (pc' := 434) C dL_law_433 zk_iconst_1 rfl ?_
  refine z_iadd (pc' := 435) C dL_law_434 rfl ?_
  refine z_sld (pc' := 436) C hX hb hw (v := q 1) (hs 1 (by decide)) dL_law_435 rfl ?_
  refine z_callV (pc' := 439) (st := []) (h' := gW w h0 σ ρ' u) C (d_X9_parent hN  hg) zy_X9_parent zw_1373 zw_1374 zw_1375 (ci := 9) rfl (gW_c (k := 0) (by omega) rfl) rfl rfl rfl rfl (room_ok hk hn (by dsimp only [zrx, zr]; omega) (by dsimp only [zrx, zr]; omega)) dL_law_436 rfl ?_
  refine z_istore (pc' := 441) C _ dL_law_439 rfl rfl rfl ?_
  refine z_aload_n (pc' := 442) C 4 dL_law_441 rfl rfl rfl ?_
  refine z_callV (pc' := 445) (st := []) (h' := gW w h0 σ ρ' u) C (d_X9_thrown hN (v := md_thrown ρ') rfl) zy_X9_thrown zw_1236 zw_1237 zw_1238 (ci := 9) rfl (gW_c (k := 0) (by omega) rfl) rfl rfl rfl rfl (room_ok hk hn (by dsimp only [zrx, zr]; omega) (by dsimp only [zrx, zr]; omega)) dL_law_442 rfl ?_
  refine z_iload (pc' := 447) C 1 dL_law_445 rfl rfl ?_
  refine z_icmp_eq (pc' := 450) C 452 (if_pos ht : (if _ = _ then some () else (none : Option Unit)) = some ()) dL_law_447 rfl rfl (fun _ _ => ?_) (fun q _ => absurd ht q)
  refine z_iload (pc' := 454) C 1 dL_law_452 rfl rfl ?_
  refine z_if_ne (pc' := 457) C 469 (if_neg (by decide) : (if (1 : Int32) = 0 then (none : Option Unit) else some ()) = some ()) dL_law_454 rfl rfl (fun _ _ => ?_) (fun q _ => absurd q (by decide))
  refine z_goto C 2707 dL_law_469 rfl ?_
  refine z_pick (lv' := lw_lv w b i) [2, 3, 4, 5, 6] rfl ?_
  exact kk _ _ _ (by dsimp only [zrx, zr]; omega) (by dsimp only [zrx, zr]; omega)
theorem lc_itemCount (hN : 396 ≤ N) (hC : lw_C X w b L xs) (hs : lw_sc L xs i q) (hk : k + 12 ≤ 601024) (hn : n + 1000 ≤ 7293033) {v : Int32} {b9 : Int32} (hf : f_X8_itemCount σ (q 1) = some (.inr v)) (hg : g_X9_itemCount ρ (q 1) = some (b9, ρ')) (ht : md_thrown ρ' = 0) (hv : v.toInt64 = b9.toInt64) (kk : lw_N X w Q b i N h0 k n σ ρ') : zZ X w Q k n false N (gW w h0 σ ρ u) 472 (lw_lv w b i) [] := by
  obtain ⟨C, hX, hb, hw⟩ := hC
  refine z_aload_n (pc' := 473) C 3 dL_law_472 rfl rfl rfl ?_
  refine z_aload_n (pc' := 474) C 4 dL_law_473 rfl rfl rfl ?_
  refine z_iload (pc' := 476) C 0 dL_law_474 rfl rfl ?_
  refine z_iconst (pc' := 477) C dL_law_476 zk_iconst_1 rfl ?_
  refine z_iadd (pc' := 478) C dL_law_477 rfl ?_
  refine z_sld (pc' := 479) C hX hb hw (v := q 1) (hs 1 (by decide)) dL_law_478 rfl ?_
  refine z_aload_n (pc' := 480) C 1 dL_law_479 rfl rfl rfl ?_
  refine z_callSW (pc' := 483) (m := 3) (st := []) (h' := gW w h0 σ ρ (vp_updL u 0 (v.toInt64))) C (zMw_eq gW_o (c_L_itemCount (a := 0) (c0 := 395) (N := N) (by omega) (by omega) (zc_w (a := 389) (o := 6) (by omega) rfl) hf)) zw_732 zw_0 (by decide +kernel) zw_730 zw_731 rfl rfl rfl rfl (room_ok hk hn (by dsimp only [zrx, zr]; omega) (by dsimp only [zrx, zr]; omega)) dL_law_480 rfl ?_
  refine z_istore (pc' := 485) C _ dL_law_483 rfl rfl rfl ?_
  refine z_aload_n (pc' := 486) C 3 dL_law_485 rfl rfl rfl ?_
  refine z_aload_n (pc' := 487) C 5 dL_law_486 rfl rfl rfl ?_
  refine z_iload (pc' := 489) C 1 dL_law_487 rfl rfl ?_
  refine z_iconst (pc' := 490) C dL_law_489 zk_iconst_1 rfl ?_
  refine z_iadd (pc' := 491) C dL_law_490 rfl ?_
  refine z_sld (pc' := 492) C hX hb hw (v := q 1) (hs 1 (by decide)) dL_law_491 rfl ?_
  refine z_callV (pc' := 495) (st := []) (h' := gW w h0 σ ρ' (vp_updL u 0 (v.toInt64))) C (d_X9_itemCount hN  hg) zy_X9_itemCount zw_1385 zw_1386 zw_1387 (ci := 9) rfl (gW_c (k := 0) (by omega) rfl) rfl rfl rfl rfl (room_ok hk hn (by dsimp only [zrx, zr]; omega) (by dsimp only [zrx, zr]; omega)) dL_law_492 rfl ?_
  refine z_istore (pc' := 497) C _ dL_law_495 rfl rfl rfl ?_
  refine z_aload_n (pc' := 498) C 4 dL_law_497 rfl rfl rfl ?_
  refine z_callV (pc' := 501) (st := []) (h' := gW w h0 σ ρ' (vp_updL u 0 (v.toInt64))) C (d_X9_thrown hN (v := md_thrown ρ') rfl) zy_X9_thrown zw_1236 zw_1237 zw_1238 (ci := 9) rfl (gW_c (k := 0) (by omega) rfl) rfl rfl rfl rfl (room_ok hk hn (by dsimp only [zrx, zr]; omega) (by dsimp only [zrx, zr]; omega)) dL_law_498 rfl ?_
  refine z_iload (pc' := 503) C 1 dL_law_501 rfl rfl ?_
  refine z_icmp_eq (pc' := 506) C 508 (if_pos ht : (if _ = _ then some () else (none : Option Unit)) = some ()) dL_law_503 rfl rfl (fun _ _ => ?_) (fun q _ => absurd ht q)
  refine z_iload (pc' := 510) C 1 dL_law_508 rfl rfl ?_
  refine z_if_ne (pc' := 513) C 525 (if_pos rfl : (if (0 : Int32) = 0 then some () else (none : Option Unit)) = some ()) dL_law_510 rfl rfl (fun q _ => absurd rfl q) (fun _ _ => ?_)
  refine z_aload_n (pc' := 514) C 3 dL_law_513 rfl rfl rfl ?_
  refine z_iconst (pc' := 515) C dL_law_514 zk_iconst_0 rfl ?_
  refine z_lald (pc' := 516) C (K := fun v => some v) rfl (gW_c (k := 6) (by omega) rfl) dL_law_515 rfl (fun v0 hv0 => ?_)
  cases hv0
  refine z_iload (pc' := 518) C 0 dL_law_516 rfl rfl ?_
  refine z_i2l (pc' := 519) C dL_law_518 rfl ?_
  refine z_lcmp_eq (pc' := 523) (pc1 := 520) C 525 (if_pos hv : (if _ = _ then some () else (none : Option Unit)) = some ()) dL_law_519 rfl dL_law_520 rfl rfl (fun _ _ => ?_) (fun q _ => absurd hv q)
  refine z_goto C 2707 dL_law_525 rfl ?_
  refine z_pick (lv' := lw_lv w b i) [2, 3, 4, 5, 6] rfl ?_
  exact kk _ _ _ (by dsimp only [zrx, zr]; omega) (by dsimp only [zrx, zr]; omega)
theorem lc_itemCount_x1 (hN : 396 ≤ N) (hC : lw_C X w b L xs) (hs : lw_sc L xs i q) (hk : k + 12 ≤ 601024) (hn : n + 1000 ≤ 7293033) {b9 : Int32} (hf : f_X8_itemCount σ (q 1) = some (.inl "java/lang/IndexOutOfBoundsException")) (hg : g_X9_itemCount ρ (q 1) = some (b9, ρ')) (ht : md_thrown ρ' = 1) (kk : lw_N X w Q b i N h0 k n σ ρ') : zZ X w Q k n false N (gW w h0 σ ρ u) 472 (lw_lv w b i) [] := by
  obtain ⟨C, hX, hb, hw⟩ := hC
  refine z_aload_n (pc' := 473) C 3 dL_law_472 rfl rfl rfl ?_
  refine z_aload_n (pc' := 474) C 4 dL_law_473 rfl rfl rfl ?_
  refine z_iload (pc' := 476) C 0 dL_law_474 rfl rfl ?_
  refine z_iconst (pc' := 477) C dL_law_476 zk_iconst_1 rfl ?_
  refine z_iadd (pc' := 478) C dL_law_477 rfl ?_
  refine z_sld (pc' := 479) C hX hb hw (v := q 1) (hs 1 (by decide)) dL_law_478 rfl ?_
  refine z_aload_n (pc' := 480) C 1 dL_law_479 rfl rfl rfl ?_
  refine z_callSW (pc' := 483) (m := 3) (st := []) (h' := gW w h0 σ ρ u) C (c_L_itemCount_1 (a := 0) (c0 := 395) (N := N) (by omega) (by omega) (zc_w (a := 389) (o := 6) (by omega) rfl) hf) zw_732 zw_0 (by decide +kernel) zw_730 zw_731 rfl rfl rfl rfl (room_ok hk hn (by dsimp only [zrx, zr]; omega) (by dsimp only [zrx, zr]; omega)) dL_law_480 rfl ?_
  refine z_istore (pc' := 485) C _ dL_law_483 rfl rfl rfl ?_
  refine z_aload_n (pc' := 486) C 3 dL_law_485 rfl rfl rfl ?_
  refine z_aload_n (pc' := 487) C 5 dL_law_486 rfl rfl rfl ?_
  refine z_iload (pc' := 489) C 1 dL_law_487 rfl rfl ?_
  refine z_iconst (pc' := 490) C dL_law_489 zk_iconst_1 rfl ?_
  refine z_iadd (pc' := 491) C dL_law_490 rfl ?_
  refine z_sld (pc' := 492) C hX hb hw (v := q 1) (hs 1 (by decide)) dL_law_491 rfl ?_
  refine z_callV (pc' := 495) (st := []) (h' := gW w h0 σ ρ' u) C (d_X9_itemCount hN  hg) zy_X9_itemCount zw_1385 zw_1386 zw_1387 (ci := 9) rfl (gW_c (k := 0) (by omega) rfl) rfl rfl rfl rfl (room_ok hk hn (by dsimp only [zrx, zr]; omega) (by dsimp only [zrx, zr]; omega)) dL_law_492 rfl ?_
  refine z_istore (pc' := 497) C _ dL_law_495 rfl rfl rfl ?_
  refine z_aload_n (pc' := 498) C 4 dL_law_497 rfl rfl rfl ?_
  refine z_callV (pc' := 501) (st := []) (h' := gW w h0 σ ρ' u) C (d_X9_thrown hN (v := md_thrown ρ') rfl) zy_X9_thrown zw_1236 zw_1237 zw_1238 (ci := 9) rfl (gW_c (k := 0) (by omega) rfl) rfl rfl rfl rfl (room_ok hk hn (by dsimp only [zrx, zr]; omega) (by dsimp only [zrx, zr]; omega)) dL_law_498 rfl ?_
  refine z_iload (pc' := 503) C 1 dL_law_501 rfl rfl ?_
  refine z_icmp_eq (pc' := 506) C 508 (if_pos ht : (if _ = _ then some () else (none : Option Unit)) = some ()) dL_law_503 rfl rfl (fun _ _ => ?_) (fun q _ => absurd ht q)
  refine z_iload (pc' := 510) C 1 dL_law_508 rfl rfl ?_
  refine z_if_ne (pc' := 513) C 525 (if_neg (by decide) : (if (1 : Int32) = 0 then (none : Option Unit) else some ()) = some ()) dL_law_510 rfl rfl (fun _ _ => ?_) (fun q _ => absurd q (by decide))
  refine z_goto C 2707 dL_law_525 rfl ?_
  refine z_pick (lv' := lw_lv w b i) [2, 3, 4, 5, 6] rfl ?_
  exact kk _ _ _ (by dsimp only [zrx, zr]; omega) (by dsimp only [zrx, zr]; omega)
theorem lc_quantity (hN : 396 ≤ N) (hC : lw_C X w b L xs) (hs : lw_sc L xs i q) (hk : k + 12 ≤ 601024) (hn : n + 1000 ≤ 7293033) {v : Int32} {b9 : Int32} (hf : f_X8_quantity σ (q 1) (q 2) = some (.inr v)) (hg : g_X9_quantity ρ (q 1) (q 2) = some (b9, ρ')) (ht : md_thrown ρ' = 0) (hv : v.toInt64 = b9.toInt64) (kk : lw_N X w Q b i N h0 k n σ ρ') : zZ X w Q k n false N (gW w h0 σ ρ u) 528 (lw_lv w b i) [] := by
  obtain ⟨C, hX, hb, hw⟩ := hC
  refine z_aload_n (pc' := 529) C 3 dL_law_528 rfl rfl rfl ?_
  refine z_aload_n (pc' := 530) C 4 dL_law_529 rfl rfl rfl ?_
  refine z_iload (pc' := 532) C 0 dL_law_530 rfl rfl ?_
  refine z_iconst (pc' := 533) C dL_law_532 zk_iconst_1 rfl ?_
  refine z_iadd (pc' := 534) C dL_law_533 rfl ?_
  refine z_sld (pc' := 535) C hX hb hw (v := q 1) (hs 1 (by decide)) dL_law_534 rfl ?_
  refine z_aload_n (pc' := 536) C 4 dL_law_535 rfl rfl rfl ?_
  refine z_iload (pc' := 538) C 0 dL_law_536 rfl rfl ?_
  refine z_iconst (pc' := 539) C dL_law_538 zk_iconst_2 rfl ?_
  refine z_iadd (pc' := 540) C dL_law_539 rfl ?_
  refine z_sld (pc' := 541) C hX hb hw (v := q 2) (hs 2 (by decide)) dL_law_540 rfl ?_
  refine z_aload_n (pc' := 542) C 1 dL_law_541 rfl rfl rfl ?_
  refine z_callSW (pc' := 545) (m := 4) (st := []) (h' := gW w h0 σ ρ (vp_updL u 0 (v.toInt64))) C (zMw_eq gW_o (c_L_quantity (a := 0) (c0 := 395) (N := N) (by omega) (by omega) (zc_w (a := 389) (o := 6) (by omega) rfl) hf)) zw_739 zw_0 (by decide +kernel) zw_737 zw_738 rfl rfl rfl rfl (room_ok hk hn (by dsimp only [zrx, zr]; omega) (by dsimp only [zrx, zr]; omega)) dL_law_542 rfl ?_
  refine z_istore (pc' := 547) C _ dL_law_545 rfl rfl rfl ?_
  refine z_aload_n (pc' := 548) C 3 dL_law_547 rfl rfl rfl ?_
  refine z_aload_n (pc' := 549) C 5 dL_law_548 rfl rfl rfl ?_
  refine z_iload (pc' := 551) C 1 dL_law_549 rfl rfl ?_
  refine z_iconst (pc' := 552) C dL_law_551 zk_iconst_1 rfl ?_
  refine z_iadd (pc' := 553) C dL_law_552 rfl ?_
  refine z_sld (pc' := 554) C hX hb hw (v := q 1) (hs 1 (by decide)) dL_law_553 rfl ?_
  refine z_aload_n (pc' := 555) C 5 dL_law_554 rfl rfl rfl ?_
  refine z_iload (pc' := 557) C 1 dL_law_555 rfl rfl ?_
  refine z_iconst (pc' := 558) C dL_law_557 zk_iconst_2 rfl ?_
  refine z_iadd (pc' := 559) C dL_law_558 rfl ?_
  refine z_sld (pc' := 560) C hX hb hw (v := q 2) (hs 2 (by decide)) dL_law_559 rfl ?_
  refine z_callV (pc' := 563) (st := []) (h' := gW w h0 σ ρ' (vp_updL u 0 (v.toInt64))) C (d_X9_quantity hN  hg) zy_X9_quantity zw_1389 zw_1390 zw_1391 (ci := 9) rfl (gW_c (k := 0) (by omega) rfl) rfl rfl rfl rfl (room_ok hk hn (by dsimp only [zrx, zr]; omega) (by dsimp only [zrx, zr]; omega)) dL_law_560 rfl ?_
  refine z_istore (pc' := 565) C _ dL_law_563 rfl rfl rfl ?_
  refine z_aload_n (pc' := 566) C 4 dL_law_565 rfl rfl rfl ?_
  refine z_callV (pc' := 569) (st := []) (h' := gW w h0 σ ρ' (vp_updL u 0 (v.toInt64))) C (d_X9_thrown hN (v := md_thrown ρ') rfl) zy_X9_thrown zw_1236 zw_1237 zw_1238 (ci := 9) rfl (gW_c (k := 0) (by omega) rfl) rfl rfl rfl rfl (room_ok hk hn (by dsimp only [zrx, zr]; omega) (by dsimp only [zrx, zr]; omega)) dL_law_566 rfl ?_
  refine z_iload (pc' := 571) C 1 dL_law_569 rfl rfl ?_
  refine z_icmp_eq (pc' := 574) C 576 (if_pos ht : (if _ = _ then some () else (none : Option Unit)) = some ()) dL_law_571 rfl rfl (fun _ _ => ?_) (fun q _ => absurd ht q)
  refine z_iload (pc' := 578) C 1 dL_law_576 rfl rfl ?_
  refine z_if_ne (pc' := 581) C 593 (if_pos rfl : (if (0 : Int32) = 0 then some () else (none : Option Unit)) = some ()) dL_law_578 rfl rfl (fun q _ => absurd rfl q) (fun _ _ => ?_)
  refine z_aload_n (pc' := 582) C 3 dL_law_581 rfl rfl rfl ?_
  refine z_iconst (pc' := 583) C dL_law_582 zk_iconst_0 rfl ?_
  refine z_lald (pc' := 584) C (K := fun v => some v) rfl (gW_c (k := 6) (by omega) rfl) dL_law_583 rfl (fun v0 hv0 => ?_)
  cases hv0
  refine z_iload (pc' := 586) C 0 dL_law_584 rfl rfl ?_
  refine z_i2l (pc' := 587) C dL_law_586 rfl ?_
  refine z_lcmp_eq (pc' := 591) (pc1 := 588) C 593 (if_pos hv : (if _ = _ then some () else (none : Option Unit)) = some ()) dL_law_587 rfl dL_law_588 rfl rfl (fun _ _ => ?_) (fun q _ => absurd hv q)
  refine z_goto C 2707 dL_law_593 rfl ?_
  refine z_pick (lv' := lw_lv w b i) [2, 3, 4, 5, 6] rfl ?_
  exact kk _ _ _ (by dsimp only [zrx, zr]; omega) (by dsimp only [zrx, zr]; omega)
theorem lc_quantity_x1 (hN : 396 ≤ N) (hC : lw_C X w b L xs) (hs : lw_sc L xs i q) (hk : k + 12 ≤ 601024) (hn : n + 1000 ≤ 7293033) {b9 : Int32} (hf : f_X8_quantity σ (q 1) (q 2) = some (.inl "java/lang/IndexOutOfBoundsException")) (hg : g_X9_quantity ρ (q 1) (q 2) = some (b9, ρ')) (ht : md_thrown ρ' = 1) (kk : lw_N X w Q b i N h0 k n σ ρ') : zZ X w Q k n false N (gW w h0 σ ρ u) 528 (lw_lv w b i) [] := by
  obtain ⟨C, hX, hb, hw⟩ := hC
  refine z_aload_n (pc' := 529) C 3 dL_law_528 rfl rfl rfl ?_
  refine z_aload_n (pc' := 530) C 4 dL_law_529 rfl rfl rfl ?_
  refine z_iload (pc' := 532) C 0 dL_law_530 rfl rfl ?_
  refine z_iconst (pc' := 533) C dL_law_532 zk_iconst_1 rfl ?_
  refine z_iadd (pc' := 534) C dL_law_533 rfl ?_
  refine z_sld (pc' := 535) C hX hb hw (v := q 1) (hs 1 (by decide)) dL_law_534 rfl ?_
  refine z_aload_n (pc' := 536) C 4 dL_law_535 rfl rfl rfl ?_
  refine z_iload (pc' := 538) C 0 dL_law_536 rfl rfl ?_
  refine z_iconst (pc' := 539) C dL_law_538 zk_iconst_2 rfl ?_
  refine z_iadd (pc' := 540) C dL_law_539 rfl ?_
  refine z_sld (pc' := 541) C hX hb hw (v := q 2) (hs 2 (by decide)) dL_law_540 rfl ?_
  refine z_aload_n (pc' := 542) C 1 dL_law_541 rfl rfl rfl ?_
  refine z_callSW (pc' := 545) (m := 4) (st := []) (h' := gW w h0 σ ρ u) C (c_L_quantity_1 (a := 0) (c0 := 395) (N := N) (by omega) (by omega) (zc_w (a := 389) (o := 6) (by omega) rfl) hf) zw_739 zw_0 (by decide +kernel) zw_737 zw_738 rfl rfl rfl rfl (room_ok hk hn (by dsimp only [zrx, zr]; omega) (by dsimp only [zrx, zr]; omega)) dL_law_542 rfl ?_
  refine z_istore (pc' := 547) C _ dL_law_545 rfl rfl rfl ?_
  refine z_aload_n (pc' := 548) C 3 dL_law_547 rfl rfl rfl ?_
  refine z_aload_n (pc' := 549) C 5 dL_law_548 rfl rfl rfl ?_
  refine z_iload (pc' := 551) C 1 dL_law_549 rfl rfl ?_
  refine z_iconst (pc' := 552) C dL_law_551 zk_iconst_1 rfl ?_
  refine z_iadd (pc' := 553) C dL_law_552 rfl ?_
  refine z_sld (pc' := 554) C hX hb hw (v := q 1) (hs 1 (by decide)) dL_law_553 rfl ?_
  refine z_aload_n (pc' := 555) C 5 dL_law_554 rfl rfl rfl ?_
  refine z_iload (pc' := 557) C 1 dL_law_555 rfl rfl ?_
  refine z_iconst (pc' := 558) C dL_law_557 zk_iconst_2 rfl ?_
  refine z_iadd (pc' := 559) C dL_law_558 rfl ?_
  refine z_sld (pc' := 560) C hX hb hw (v := q 2) (hs 2 (by decide)) dL_law_559 rfl ?_
  refine z_callV (pc' := 563) (st := []) (h' := gW w h0 σ ρ' u) C (d_X9_quantity hN  hg) zy_X9_quantity zw_1389 zw_1390 zw_1391 (ci := 9) rfl (gW_c (k := 0) (by omega) rfl) rfl rfl rfl rfl (room_ok hk hn (by dsimp only [zrx, zr]; omega) (by dsimp only [zrx, zr]; omega)) dL_law_560 rfl ?_
  refine z_istore (pc' := 565) C _ dL_law_563 rfl rfl rfl ?_
  refine z_aload_n (pc' := 566) C 4 dL_law_565 rfl rfl rfl ?_
  refine z_callV (pc' := 569) (st := []) (h' := gW w h0 σ ρ' u) C (d_X9_thrown hN (v := md_thrown ρ') rfl) zy_X9_thrown zw_1236 zw_1237 zw_1238 (ci := 9) rfl (gW_c (k := 0) (by omega) rfl) rfl rfl rfl rfl (room_ok hk hn (by dsimp only [zrx, zr]; omega) (by dsimp only [zrx, zr]; omega)) dL_law_566 rfl ?_
  refine z_iload (pc' := 571) C 1 dL_law_569 rfl rfl ?_
  refine z_icmp_eq (pc' := 574) C 576 (if_pos ht : (if _ = _ then some () else (none : Option Unit)) = some ()) dL_law_571 rfl rfl (fun _ _ => ?_) (fun q _ => absurd ht q)
  refine z_iload (pc' := 578) C 1 dL_law_576 rfl rfl ?_
  refine z_if_ne (pc' := 581) C 593 (if_neg (by decide) : (if (1 : Int32) = 0 then (none : Option Unit) else some ()) = some ()) dL_law_578 rfl rfl (fun _ _ => ?_) (fun q _ => absurd q (by decide))
  refine z_goto C 2707 dL_law_593 rfl ?_
  refine z_pick (lv' := lw_lv w b i) [2, 3, 4, 5, 6] rfl ?_
  exact kk _ _ _ (by dsimp only [zrx, zr]; omega) (by dsimp only [zrx, zr]; omega)
theorem lc_specialRate (hN : 396 ≤ N) (hC : lw_C X w b L xs) (hs : lw_sc L xs i q) (hk : k + 12 ≤ 601024) (hn : n + 1000 ≤ 7293033) (hG : PgW w N 0 (zu h0 389 (mL w ρ u)) σ) {v : Int32} {b9 : Int32} (hf : f_X8_specialRate σ (q 1) (q 2) = some (.inr (v, σ'))) (hg : g_X9_specialRate ρ (q 1) (q 2) = some (b9, ρ')) (ht : md_thrown ρ' = 0) (hv : v.toInt64 = b9.toInt64) (kk : lw_N X w Q b i N h0 k n σ' ρ') : zZ X w Q k n false N (gW w h0 σ ρ u) 596 (lw_lv w b i) [] := by
  obtain ⟨C, hX, hb, hw⟩ := hC
  refine z_aload_n (pc' := 597) C 3 dL_law_596 rfl rfl rfl ?_
  refine z_aload_n (pc' := 598) C 4 dL_law_597 rfl rfl rfl ?_
  refine z_iload (pc' := 600) C 0 dL_law_598 rfl rfl ?_
  refine z_iconst (pc' := 601) C dL_law_600 zk_iconst_1 rfl ?_
  refine z_iadd (pc' := 602) C dL_law_601 rfl ?_
  refine z_sld (pc' := 603) C hX hb hw (v := q 1) (hs 1 (by decide)) dL_law_602 rfl ?_
  refine z_aload_n (pc' := 604) C 4 dL_law_603 rfl rfl rfl ?_
  refine z_iload (pc' := 606) C 0 dL_law_604 rfl rfl ?_
  refine z_iconst (pc' := 607) C dL_law_606 zk_iconst_2 rfl ?_
  refine z_iadd (pc' := 608) C dL_law_607 rfl ?_
  refine z_sld (pc' := 609) C hX hb hw (v := q 2) (hs 2 (by decide)) dL_law_608 rfl ?_
  refine z_aload_n (pc' := 610) C 1 dL_law_609 rfl rfl rfl ?_
  refine z_callSW (pc' := 613) (m := 4) (st := []) (h' := gW w h0 σ' ρ (vp_updL u 0 (v.toInt64))) C (zMw_eq gW_o (c_L_specialRate (a := 0) (c0 := 395) (N := N) (by omega) (by omega) (zc_w (a := 389) (o := 6) (by omega) rfl) hG hf)) zw_751 zw_0 (by decide +kernel) zw_749 zw_750 rfl rfl rfl rfl (room_ok hk hn (by dsimp only [zrx, zr]; omega) (by dsimp only [zrx, zr]; omega)) dL_law_610 rfl ?_
  refine z_istore (pc' := 615) C _ dL_law_613 rfl rfl rfl ?_
  refine z_aload_n (pc' := 616) C 3 dL_law_615 rfl rfl rfl ?_
  refine z_aload_n (pc' := 617) C 5 dL_law_616 rfl rfl rfl ?_
  refine z_iload (pc' := 619) C 1 dL_law_617 rfl rfl ?_
  refine z_iconst (pc' := 620) C dL_law_619 zk_iconst_1 rfl ?_
  refine z_iadd (pc' := 621) C dL_law_620 rfl ?_
  refine z_sld (pc' := 622) C hX hb hw (v := q 1) (hs 1 (by decide)) dL_law_621 rfl ?_
  refine z_aload_n (pc' := 623) C 5 dL_law_622 rfl rfl rfl ?_
  refine z_iload (pc' := 625) C 1 dL_law_623 rfl rfl ?_
  refine z_iconst (pc' := 626) C dL_law_625 zk_iconst_2 rfl ?_
  refine z_iadd (pc' := 627) C dL_law_626 rfl ?_
  refine z_sld (pc' := 628) C hX hb hw (v := q 2) (hs 2 (by decide)) dL_law_627 rfl ?_
  refine z_callV (pc' := 631) (st := []) (h' := gW w h0 σ' ρ' (vp_updL u 0 (v.toInt64))) C (d_X9_specialRate hN  hg) zy_X9_specialRate zw_1405 zw_1406 zw_1407 (ci := 9) rfl (gW_c (k := 0) (by omega) rfl) rfl rfl rfl rfl (room_ok hk hn (by dsimp only [zrx, zr]; omega) (by dsimp only [zrx, zr]; omega)) dL_law_628 rfl ?_
  refine z_istore (pc' := 633) C _ dL_law_631 rfl rfl rfl ?_
  refine z_aload_n (pc' := 634) C 4 dL_law_633 rfl rfl rfl ?_
  refine z_callV (pc' := 637) (st := []) (h' := gW w h0 σ' ρ' (vp_updL u 0 (v.toInt64))) C (d_X9_thrown hN (v := md_thrown ρ') rfl) zy_X9_thrown zw_1236 zw_1237 zw_1238 (ci := 9) rfl (gW_c (k := 0) (by omega) rfl) rfl rfl rfl rfl (room_ok hk hn (by dsimp only [zrx, zr]; omega) (by dsimp only [zrx, zr]; omega)) dL_law_634 rfl ?_
  refine z_iload (pc' := 639) C 1 dL_law_637 rfl rfl ?_
  refine z_icmp_eq (pc' := 642) C 644 (if_pos ht : (if _ = _ then some () else (none : Option Unit)) = some ()) dL_law_639 rfl rfl (fun _ _ => ?_) (fun q _ => absurd ht q)
  refine z_iload (pc' := 646) C 1 dL_law_644 rfl rfl ?_
  refine z_if_ne (pc' := 649) C 661 (if_pos rfl : (if (0 : Int32) = 0 then some () else (none : Option Unit)) = some ()) dL_law_646 rfl rfl (fun q _ => absurd rfl q) (fun _ _ => ?_)
  refine z_aload_n (pc' := 650) C 3 dL_law_649 rfl rfl rfl ?_
  refine z_iconst (pc' := 651) C dL_law_650 zk_iconst_0 rfl ?_
  refine z_lald (pc' := 652) C (K := fun v => some v) rfl (gW_c (k := 6) (by omega) rfl) dL_law_651 rfl (fun v0 hv0 => ?_)
  cases hv0
  refine z_iload (pc' := 654) C 0 dL_law_652 rfl rfl ?_
  refine z_i2l (pc' := 655) C dL_law_654 rfl ?_
  refine z_lcmp_eq (pc' := 659) (pc1 := 656) C 661 (if_pos hv : (if _ = _ then some () else (none : Option Unit)) = some ()) dL_law_655 rfl dL_law_656 rfl rfl (fun _ _ => ?_) (fun q _ => absurd hv q)
  refine z_goto C 2707 dL_law_661 rfl ?_
  refine z_pick (lv' := lw_lv w b i) [2, 3, 4, 5, 6] rfl ?_
  exact kk _ _ _ (by dsimp only [zrx, zr]; omega) (by dsimp only [zrx, zr]; omega)
theorem lc_specialRate_x1 (hN : 396 ≤ N) (hC : lw_C X w b L xs) (hs : lw_sc L xs i q) (hk : k + 12 ≤ 601024) (hn : n + 1000 ≤ 7293033) (hG : PgW w N 0 (zu h0 389 (mL w ρ u)) σ) {b9 : Int32} (hf : f_X8_specialRate σ (q 1) (q 2) = some (.inl ("java/lang/IndexOutOfBoundsException", σ'))) (hg : g_X9_specialRate ρ (q 1) (q 2) = some (b9, ρ')) (ht : md_thrown ρ' = 1) (kk : lw_N X w Q b i N h0 k n σ' ρ') : zZ X w Q k n false N (gW w h0 σ ρ u) 596 (lw_lv w b i) [] := by
  obtain ⟨C, hX, hb, hw⟩ := hC
  refine z_aload_n (pc' := 597) C 3 dL_law_596 rfl rfl rfl ?_
  refine z_aload_n (pc' := 598) C 4 dL_law_597 rfl rfl rfl ?_
  refine z_iload (pc' := 600) C 0 dL_law_598 rfl rfl ?_
  refine z_iconst (pc' := 601) C dL_law_600 zk_iconst_1 rfl ?_
  refine z_iadd (pc' := 602) C dL_law_601 rfl ?_
  refine z_sld (pc' := 603) C hX hb hw (v := q 1) (hs 1 (by decide)) dL_law_602 rfl ?_
  refine z_aload_n (pc' := 604) C 4 dL_law_603 rfl rfl rfl ?_
  refine z_iload (pc' := 606) C 0 dL_law_604 rfl rfl ?_
  refine z_iconst (pc' := 607) C dL_law_606 zk_iconst_2 rfl ?_
  refine z_iadd (pc' := 608) C dL_law_607 rfl ?_
  refine z_sld (pc' := 609) C hX hb hw (v := q 2) (hs 2 (by decide)) dL_law_608 rfl ?_
  refine z_aload_n (pc' := 610) C 1 dL_law_609 rfl rfl rfl ?_
  refine z_callSW (pc' := 613) (m := 4) (st := []) (h' := gW w h0 σ' ρ u) C (c_L_specialRate_1 (a := 0) (c0 := 395) (N := N) (by omega) (by omega) (zc_w (a := 389) (o := 6) (by omega) rfl) hG hf) zw_751 zw_0 (by decide +kernel) zw_749 zw_750 rfl rfl rfl rfl (room_ok hk hn (by dsimp only [zrx, zr]; omega) (by dsimp only [zrx, zr]; omega)) dL_law_610 rfl ?_
  refine z_istore (pc' := 615) C _ dL_law_613 rfl rfl rfl ?_
  refine z_aload_n (pc' := 616) C 3 dL_law_615 rfl rfl rfl ?_
  refine z_aload_n (pc' := 617) C 5 dL_law_616 rfl rfl rfl ?_
  refine z_iload (pc' := 619) C 1 dL_law_617 rfl rfl ?_
  refine z_iconst (pc' := 620) C dL_law_619 zk_iconst_1 rfl ?_
  refine z_iadd (pc' := 621) C dL_law_620 rfl ?_
  refine z_sld (pc' := 622) C hX hb hw (v := q 1) (hs 1 (by decide)) dL_law_621 rfl ?_
  refine z_aload_n (pc' := 623) C 5 dL_law_622 rfl rfl rfl ?_
  refine z_iload (pc' := 625) C 1 dL_law_623 rfl rfl ?_
  refine z_iconst (pc' := 626) C dL_law_625 zk_iconst_2 rfl ?_
  refine z_iadd (pc' := 627) C dL_law_626 rfl ?_
  refine z_sld (pc' := 628) C hX hb hw (v := q 2) (hs 2 (by decide)) dL_law_627 rfl ?_
  refine z_callV (pc' := 631) (st := []) (h' := gW w h0 σ' ρ' u) C (d_X9_specialRate hN  hg) zy_X9_specialRate zw_1405 zw_1406 zw_1407 (ci := 9) rfl (gW_c (k := 0) (by omega) rfl) rfl rfl rfl rfl (room_ok hk hn (by dsimp only [zrx, zr]; omega) (by dsimp only [zrx, zr]; omega)) dL_law_628 rfl ?_
  refine z_istore (pc' := 633) C _ dL_law_631 rfl rfl rfl ?_
  refine z_aload_n (pc' := 634) C 4 dL_law_633 rfl rfl rfl ?_
  refine z_callV (pc' := 637) (st := []) (h' := gW w h0 σ' ρ' u) C (d_X9_thrown hN (v := md_thrown ρ') rfl) zy_X9_thrown zw_1236 zw_1237 zw_1238 (ci := 9) rfl (gW_c (k := 0) (by omega) rfl) rfl rfl rfl rfl (room_ok hk hn (by dsimp only [zrx, zr]; omega) (by dsimp only [zrx, zr]; omega)) dL_law_634 rfl ?_
  refine z_iload (pc' := 639) C 1 dL_law_637 rfl rfl ?_
  refine z_icmp_eq (pc' := 642) C 644 (if_pos ht : (if _ = _ then some () else (none : Option Unit)) = some ()) dL_law_639 rfl rfl (fun _ _ => ?_) (fun q _ => absurd ht q)
  refine z_iload (pc' := 646) C 1 dL_law_644 rfl rfl ?_
  refine z_if_ne (pc' := 649) C 661 (if_neg (by decide) : (if (1 : Int32) = 0 then (none : Option Unit) else some ()) = some ()) dL_law_646 rfl rfl (fun _ _ => ?_) (fun q _ => absurd q (by decide))
  refine z_goto C 2707 dL_law_661 rfl ?_
  refine z_pick (lv' := lw_lv w b i) [2, 3, 4, 5, 6] rfl ?_
  exact kk _ _ _ (by dsimp only [zrx, zr]; omega) (by dsimp only [zrx, zr]; omega)
theorem lc_itemValue (hN : 396 ≤ N) (hC : lw_C X w b L xs) (hs : lw_sc L xs i q) (hk : k + 12 ≤ 601024) (hn : n + 1000 ≤ 7293033) (hG : PgW w N 0 (zu h0 389 (mL w ρ u)) σ) {v : Int64} {b9 : Int64} (hf : f_X8_itemValue σ (q 1) (q 2) = some (.inr (v, σ'))) (hg : g_X9_itemValue ρ (q 1) (q 2) = some (b9, ρ')) (ht : md_thrown ρ' = 0) (hv : v = b9) (kk : lw_N X w Q b i N h0 k n σ' ρ') : zZ X w Q k n false N (gW w h0 σ ρ u) 664 (lw_lv w b i) [] := by
  obtain ⟨C, hX, hb, hw⟩ := hC
  refine z_aload_n (pc' := 665) C 3 dL_law_664 rfl rfl rfl ?_
  refine z_aload_n (pc' := 666) C 4 dL_law_665 rfl rfl rfl ?_
  refine z_iload (pc' := 668) C 0 dL_law_666 rfl rfl ?_
  refine z_iconst (pc' := 669) C dL_law_668 zk_iconst_1 rfl ?_
  refine z_iadd (pc' := 670) C dL_law_669 rfl ?_
  refine z_sld (pc' := 671) C hX hb hw (v := q 1) (hs 1 (by decide)) dL_law_670 rfl ?_
  refine z_aload_n (pc' := 672) C 4 dL_law_671 rfl rfl rfl ?_
  refine z_iload (pc' := 674) C 0 dL_law_672 rfl rfl ?_
  refine z_iconst (pc' := 675) C dL_law_674 zk_iconst_2 rfl ?_
  refine z_iadd (pc' := 676) C dL_law_675 rfl ?_
  refine z_sld (pc' := 677) C hX hb hw (v := q 2) (hs 2 (by decide)) dL_law_676 rfl ?_
  refine z_aload_n (pc' := 678) C 1 dL_law_677 rfl rfl rfl ?_
  refine z_callSW (pc' := 681) (m := 4) (st := []) (h' := gW w h0 σ' ρ (vp_updL u 0 (v))) C (zMw_eq gW_o (c_L_itemValue (a := 0) (c0 := 395) (N := N) (by omega) (by omega) (zc_w (a := 389) (o := 6) (by omega) rfl) hG hf)) zw_767 zw_0 (by decide +kernel) zw_765 zw_766 rfl rfl rfl rfl (room_ok hk hn (by dsimp only [zrx, zr]; omega) (by dsimp only [zrx, zr]; omega)) dL_law_678 rfl ?_
  refine z_istore (pc' := 683) C _ dL_law_681 rfl rfl rfl ?_
  refine z_aload_n (pc' := 684) C 3 dL_law_683 rfl rfl rfl ?_
  refine z_aload_n (pc' := 685) C 5 dL_law_684 rfl rfl rfl ?_
  refine z_iload (pc' := 687) C 1 dL_law_685 rfl rfl ?_
  refine z_iconst (pc' := 688) C dL_law_687 zk_iconst_1 rfl ?_
  refine z_iadd (pc' := 689) C dL_law_688 rfl ?_
  refine z_sld (pc' := 690) C hX hb hw (v := q 1) (hs 1 (by decide)) dL_law_689 rfl ?_
  refine z_aload_n (pc' := 691) C 5 dL_law_690 rfl rfl rfl ?_
  refine z_iload (pc' := 693) C 1 dL_law_691 rfl rfl ?_
  refine z_iconst (pc' := 694) C dL_law_693 zk_iconst_2 rfl ?_
  refine z_iadd (pc' := 695) C dL_law_694 rfl ?_
  refine z_sld (pc' := 696) C hX hb hw (v := q 2) (hs 2 (by decide)) dL_law_695 rfl ?_
  refine z_callV (pc' := 699) (st := []) (h' := gW w h0 σ' ρ' (vp_updL u 0 (v))) C (d_X9_itemValue hN  hg) zy_X9_itemValue zw_1429 zw_1430 zw_1431 (ci := 9) rfl (gW_c (k := 0) (by omega) rfl) rfl rfl rfl rfl (room_ok hk hn (by dsimp only [zrx, zr]; omega) (by dsimp only [zrx, zr]; omega)) dL_law_696 rfl ?_
  refine z_lstore (pc' := 701) C _ dL_law_699 rfl rfl rfl ?_
  refine z_aload_n (pc' := 702) C 4 dL_law_701 rfl rfl rfl ?_
  refine z_callV (pc' := 705) (st := []) (h' := gW w h0 σ' ρ' (vp_updL u 0 (v))) C (d_X9_thrown hN (v := md_thrown ρ') rfl) zy_X9_thrown zw_1236 zw_1237 zw_1238 (ci := 9) rfl (gW_c (k := 0) (by omega) rfl) rfl rfl rfl rfl (room_ok hk hn (by dsimp only [zrx, zr]; omega) (by dsimp only [zrx, zr]; omega)) dL_law_702 rfl ?_
  refine z_iload (pc' := 707) C 1 dL_law_705 rfl rfl ?_
  refine z_icmp_eq (pc' := 710) C 712 (if_pos ht : (if _ = _ then some () else (none : Option Unit)) = some ()) dL_law_707 rfl rfl (fun _ _ => ?_) (fun q _ => absurd ht q)
  refine z_iload (pc' := 714) C 1 dL_law_712 rfl rfl ?_
  refine z_if_ne (pc' := 717) C 728 (if_pos rfl : (if (0 : Int32) = 0 then some () else (none : Option Unit)) = some ()) dL_law_714 rfl rfl (fun q _ => absurd rfl q) (fun _ _ => ?_)
  refine z_aload_n (pc' := 718) C 3 dL_law_717 rfl rfl rfl ?_
  refine z_iconst (pc' := 719) C dL_law_718 zk_iconst_0 rfl ?_
  refine z_lald (pc' := 720) C (K := fun v => some v) rfl (gW_c (k := 6) (by omega) rfl) dL_law_719 rfl (fun v0 hv0 => ?_)
  cases hv0
  refine z_lload (pc' := 722) C 0 dL_law_720 rfl rfl ?_
  refine z_lcmp_eq (pc' := 726) (pc1 := 723) C 728 (if_pos hv : (if _ = _ then some () else (none : Option Unit)) = some ()) dL_law_722 rfl dL_law_723 rfl rfl (fun _ _ => ?_) (fun q _ => absurd hv q)
  refine z_goto C 2707 dL_law_728 rfl ?_
  refine z_pick (lv' := lw_lv w b i) [2, 3, 4, 5, 6] rfl ?_
  exact kk _ _ _ (by dsimp only [zrx, zr]; omega) (by dsimp only [zrx, zr]; omega)
theorem lc_itemValue_x1 (hN : 396 ≤ N) (hC : lw_C X w b L xs) (hs : lw_sc L xs i q) (hk : k + 12 ≤ 601024) (hn : n + 1000 ≤ 7293033) (hG : PgW w N 0 (zu h0 389 (mL w ρ u)) σ) {b9 : Int64} (hf : f_X8_itemValue σ (q 1) (q 2) = some (.inl ("java/lang/IndexOutOfBoundsException", σ'))) (hg : g_X9_itemValue ρ (q 1) (q 2) = some (b9, ρ')) (ht : md_thrown ρ' = 1) (kk : lw_N X w Q b i N h0 k n σ' ρ') : zZ X w Q k n false N (gW w h0 σ ρ u) 664 (lw_lv w b i) [] := by
  obtain ⟨C, hX, hb, hw⟩ := hC
  refine z_aload_n (pc' := 665) C 3 dL_law_664 rfl rfl rfl ?_
  refine z_aload_n (pc' := 666) C 4 dL_law_665 rfl rfl rfl ?_
  refine z_iload (pc' := 668) C 0 dL_law_666 rfl rfl ?_
  refine z_iconst (pc' := 669) C dL_law_668 zk_iconst_1 rfl ?_
  refine z_iadd (pc' := 670) C dL_law_669 rfl ?_
  refine z_sld (pc' := 671) C hX hb hw (v := q 1) (hs 1 (by decide)) dL_law_670 rfl ?_
  refine z_aload_n (pc' := 672) C 4 dL_law_671 rfl rfl rfl ?_
  refine z_iload (pc' := 674) C 0 dL_law_672 rfl rfl ?_
  refine z_iconst (pc' := 675) C dL_law_674 zk_iconst_2 rfl ?_
  refine z_iadd (pc' := 676) C dL_law_675 rfl ?_
  refine z_sld (pc' := 677) C hX hb hw (v := q 2) (hs 2 (by decide)) dL_law_676 rfl ?_
  refine z_aload_n (pc' := 678) C 1 dL_law_677 rfl rfl rfl ?_
  refine z_callSW (pc' := 681) (m := 4) (st := []) (h' := gW w h0 σ' ρ u) C (c_L_itemValue_1 (a := 0) (c0 := 395) (N := N) (by omega) (by omega) (zc_w (a := 389) (o := 6) (by omega) rfl) hG hf) zw_767 zw_0 (by decide +kernel) zw_765 zw_766 rfl rfl rfl rfl (room_ok hk hn (by dsimp only [zrx, zr]; omega) (by dsimp only [zrx, zr]; omega)) dL_law_678 rfl ?_
  refine z_istore (pc' := 683) C _ dL_law_681 rfl rfl rfl ?_
  refine z_aload_n (pc' := 684) C 3 dL_law_683 rfl rfl rfl ?_
  refine z_aload_n (pc' := 685) C 5 dL_law_684 rfl rfl rfl ?_
  refine z_iload (pc' := 687) C 1 dL_law_685 rfl rfl ?_
  refine z_iconst (pc' := 688) C dL_law_687 zk_iconst_1 rfl ?_
  refine z_iadd (pc' := 689) C dL_law_688 rfl ?_
  refine z_sld (pc' := 690) C hX hb hw (v := q 1) (hs 1 (by decide)) dL_law_689 rfl ?_
  refine z_aload_n (pc' := 691) C 5 dL_law_690 rfl rfl rfl ?_
  refine z_iload (pc' := 693) C 1 dL_law_691 rfl rfl ?_
  refine z_iconst (pc' := 694) C dL_law_693 zk_iconst_2 rfl ?_
  refine z_iadd (pc' := 695) C dL_law_694 rfl ?_
  refine z_sld (pc' := 696) C hX hb hw (v := q 2) (hs 2 (by decide)) dL_law_695 rfl ?_
  refine z_callV (pc' := 699) (st := []) (h' := gW w h0 σ' ρ' u) C (d_X9_itemValue hN  hg) zy_X9_itemValue zw_1429 zw_1430 zw_1431 (ci := 9) rfl (gW_c (k := 0) (by omega) rfl) rfl rfl rfl rfl (room_ok hk hn (by dsimp only [zrx, zr]; omega) (by dsimp only [zrx, zr]; omega)) dL_law_696 rfl ?_
  refine z_lstore (pc' := 701) C _ dL_law_699 rfl rfl rfl ?_
  refine z_aload_n (pc' := 702) C 4 dL_law_701 rfl rfl rfl ?_
  refine z_callV (pc' := 705) (st := []) (h' := gW w h0 σ' ρ' u) C (d_X9_thrown hN (v := md_thrown ρ') rfl) zy_X9_thrown zw_1236 zw_1237 zw_1238 (ci := 9) rfl (gW_c (k := 0) (by omega) rfl) rfl rfl rfl rfl (room_ok hk hn (by dsimp only [zrx, zr]; omega) (by dsimp only [zrx, zr]; omega)) dL_law_702 rfl ?_
  refine z_iload (pc' := 707) C 1 dL_law_705 rfl rfl ?_
  refine z_icmp_eq (pc' := 710) C 712 (if_pos ht : (if _ = _ then some () else (none : Option Unit)) = some ()) dL_law_707 rfl rfl (fun _ _ => ?_) (fun q _ => absurd ht q)
  refine z_iload (pc' := 714) C 1 dL_law_712 rfl rfl ?_
  refine z_if_ne (pc' := 717) C 728 (if_neg (by decide) : (if (1 : Int32) = 0 then (none : Option Unit) else some ()) = some ()) dL_law_714 rfl rfl (fun _ _ => ?_) (fun q _ => absurd q (by decide))
  refine z_goto C 2707 dL_law_728 rfl ?_
  refine z_pick (lv' := lw_lv w b i) [2, 3, 4, 5, 6] rfl ?_
  exact kk _ _ _ (by dsimp only [zrx, zr]; omega) (by dsimp only [zrx, zr]; omega)
theorem lc_firstSum (hN : 396 ≤ N) (hC : lw_C X w b L xs) (hs : lw_sc L xs i q) (hk : k + 12 ≤ 601024) (hn : n + 1000 ≤ 7293033) {v : Int64} {b9 : Int64} (hf : f_X8_firstSum σ (q 1) = some (.inr v)) (hg : g_X9_firstSum ρ (q 1) = some (b9, ρ')) (ht : md_thrown ρ' = 0) (hv : v = b9) (kk : lw_N X w Q b i N h0 k n σ ρ') : zZ X w Q k n false N (gW w h0 σ ρ u) 731 (lw_lv w b i) [] := by
  obtain ⟨C, hX, hb, hw⟩ := hC
  refine z_aload_n (pc' := 732) C 3 dL_law_731 rfl rfl rfl ?_
  refine z_aload_n (pc' := 733) C 4 dL_law_732 rfl rfl rfl ?_
  refine z_iload (pc' := 735) C 0 dL_law_733 rfl rfl ?_
  refine z_iconst (pc' := 736) C dL_law_735 zk_iconst_1 rfl ?_
  refine z_iadd (pc' := 737) C dL_law_736 rfl ?_
  refine z_sld (pc' := 738) C hX hb hw (v := q 1) (hs 1 (by decide)) dL_law_737 rfl ?_
  refine z_aload_n (pc' := 739) C 1 dL_law_738 rfl rfl rfl ?_
  refine z_callSW (pc' := 742) (m := 3) (st := []) (h' := gW w h0 σ ρ (vp_updL u 0 (v))) C (zMw_eq gW_o (c_L_firstSum (a := 0) (c0 := 395) (N := N) (by omega) (by omega) (zc_w (a := 389) (o := 6) (by omega) rfl) hf)) zw_775 zw_0 (by decide +kernel) zw_773 zw_774 rfl rfl rfl rfl (room_ok hk hn (by dsimp only [zrx, zr]; omega) (by dsimp only [zrx, zr]; omega)) dL_law_739 rfl ?_
  refine z_istore (pc' := 744) C _ dL_law_742 rfl rfl rfl ?_
  refine z_aload_n (pc' := 745) C 3 dL_law_744 rfl rfl rfl ?_
  refine z_aload_n (pc' := 746) C 5 dL_law_745 rfl rfl rfl ?_
  refine z_iload (pc' := 748) C 1 dL_law_746 rfl rfl ?_
  refine z_iconst (pc' := 749) C dL_law_748 zk_iconst_1 rfl ?_
  refine z_iadd (pc' := 750) C dL_law_749 rfl ?_
  refine z_sld (pc' := 751) C hX hb hw (v := q 1) (hs 1 (by decide)) dL_law_750 rfl ?_
  refine z_callV (pc' := 754) (st := []) (h' := gW w h0 σ ρ' (vp_updL u 0 (v))) C (d_X9_firstSum hN  hg) zy_X9_firstSum zw_1441 zw_1442 zw_1443 (ci := 9) rfl (gW_c (k := 0) (by omega) rfl) rfl rfl rfl rfl (room_ok hk hn (by dsimp only [zrx, zr]; omega) (by dsimp only [zrx, zr]; omega)) dL_law_751 rfl ?_
  refine z_lstore (pc' := 756) C _ dL_law_754 rfl rfl rfl ?_
  refine z_aload_n (pc' := 757) C 4 dL_law_756 rfl rfl rfl ?_
  refine z_callV (pc' := 760) (st := []) (h' := gW w h0 σ ρ' (vp_updL u 0 (v))) C (d_X9_thrown hN (v := md_thrown ρ') rfl) zy_X9_thrown zw_1236 zw_1237 zw_1238 (ci := 9) rfl (gW_c (k := 0) (by omega) rfl) rfl rfl rfl rfl (room_ok hk hn (by dsimp only [zrx, zr]; omega) (by dsimp only [zrx, zr]; omega)) dL_law_757 rfl ?_
  refine z_iload (pc' := 762) C 1 dL_law_760 rfl rfl ?_
  refine z_icmp_eq (pc' := 765) C 767 (if_pos ht : (if _ = _ then some () else (none : Option Unit)) = some ()) dL_law_762 rfl rfl (fun _ _ => ?_) (fun q _ => absurd ht q)
  refine z_iload (pc' := 769) C 1 dL_law_767 rfl rfl ?_
  refine z_if_ne (pc' := 772) C 783 (if_pos rfl : (if (0 : Int32) = 0 then some () else (none : Option Unit)) = some ()) dL_law_769 rfl rfl (fun q _ => absurd rfl q) (fun _ _ => ?_)
  refine z_aload_n (pc' := 773) C 3 dL_law_772 rfl rfl rfl ?_
  refine z_iconst (pc' := 774) C dL_law_773 zk_iconst_0 rfl ?_
  refine z_lald (pc' := 775) C (K := fun v => some v) rfl (gW_c (k := 6) (by omega) rfl) dL_law_774 rfl (fun v0 hv0 => ?_)
  cases hv0
  refine z_lload (pc' := 777) C 0 dL_law_775 rfl rfl ?_
  refine z_lcmp_eq (pc' := 781) (pc1 := 778) C 783 (if_pos hv : (if _ = _ then some () else (none : Option Unit)) = some ()) dL_law_777 rfl dL_law_778 rfl rfl (fun _ _ => ?_) (fun q _ => absurd hv q)
  refine z_goto C 2707 dL_law_783 rfl ?_
  refine z_pick (lv' := lw_lv w b i) [2, 3, 4, 5, 6] rfl ?_
  exact kk _ _ _ (by dsimp only [zrx, zr]; omega) (by dsimp only [zrx, zr]; omega)
theorem lc_firstSum_x1 (hN : 396 ≤ N) (hC : lw_C X w b L xs) (hs : lw_sc L xs i q) (hk : k + 12 ≤ 601024) (hn : n + 1000 ≤ 7293033) {b9 : Int64} (hf : f_X8_firstSum σ (q 1) = some (.inl "java/lang/IndexOutOfBoundsException")) (hg : g_X9_firstSum ρ (q 1) = some (b9, ρ')) (ht : md_thrown ρ' = 1) (kk : lw_N X w Q b i N h0 k n σ ρ') : zZ X w Q k n false N (gW w h0 σ ρ u) 731 (lw_lv w b i) [] := by
  obtain ⟨C, hX, hb, hw⟩ := hC
  refine z_aload_n (pc' := 732) C 3 dL_law_731 rfl rfl rfl ?_
  refine z_aload_n (pc' := 733) C 4 dL_law_732 rfl rfl rfl ?_
  refine z_iload (pc' := 735) C 0 dL_law_733 rfl rfl ?_
  refine z_iconst (pc' := 736) C dL_law_735 zk_iconst_1 rfl ?_
  refine z_iadd (pc' := 737) C dL_law_736 rfl ?_
  refine z_sld (pc' := 738) C hX hb hw (v := q 1) (hs 1 (by decide)) dL_law_737 rfl ?_
  refine z_aload_n (pc' := 739) C 1 dL_law_738 rfl rfl rfl ?_
  refine z_callSW (pc' := 742) (m := 3) (st := []) (h' := gW w h0 σ ρ u) C (c_L_firstSum_1 (a := 0) (c0 := 395) (N := N) (by omega) (by omega) (zc_w (a := 389) (o := 6) (by omega) rfl) hf) zw_775 zw_0 (by decide +kernel) zw_773 zw_774 rfl rfl rfl rfl (room_ok hk hn (by dsimp only [zrx, zr]; omega) (by dsimp only [zrx, zr]; omega)) dL_law_739 rfl ?_
  refine z_istore (pc' := 744) C _ dL_law_742 rfl rfl rfl ?_
  refine z_aload_n (pc' := 745) C 3 dL_law_744 rfl rfl rfl ?_
  refine z_aload_n (pc' := 746) C 5 dL_law_745 rfl rfl rfl ?_
  refine z_iload (pc' := 748) C 1 dL_law_746 rfl rfl ?_
  refine z_iconst (pc' := 749) C dL_law_748 zk_iconst_1 rfl ?_
  refine z_iadd (pc' := 750) C dL_law_749 rfl ?_
  refine z_sld (pc' := 751) C hX hb hw (v := q 1) (hs 1 (by decide)) dL_law_750 rfl ?_
  refine z_callV (pc' := 754) (st := []) (h' := gW w h0 σ ρ' u) C (d_X9_firstSum hN  hg) zy_X9_firstSum zw_1441 zw_1442 zw_1443 (ci := 9) rfl (gW_c (k := 0) (by omega) rfl) rfl rfl rfl rfl (room_ok hk hn (by dsimp only [zrx, zr]; omega) (by dsimp only [zrx, zr]; omega)) dL_law_751 rfl ?_
  refine z_lstore (pc' := 756) C _ dL_law_754 rfl rfl rfl ?_
  refine z_aload_n (pc' := 757) C 4 dL_law_756 rfl rfl rfl ?_
  refine z_callV (pc' := 760) (st := []) (h' := gW w h0 σ ρ' u) C (d_X9_thrown hN (v := md_thrown ρ') rfl) zy_X9_thrown zw_1236 zw_1237 zw_1238 (ci := 9) rfl (gW_c (k := 0) (by omega) rfl) rfl rfl rfl rfl (room_ok hk hn (by dsimp only [zrx, zr]; omega) (by dsimp only [zrx, zr]; omega)) dL_law_757 rfl ?_
  refine z_iload (pc' := 762) C 1 dL_law_760 rfl rfl ?_
  refine z_icmp_eq (pc' := 765) C 767 (if_pos ht : (if _ = _ then some () else (none : Option Unit)) = some ()) dL_law_762 rfl rfl (fun _ _ => ?_) (fun q _ => absurd ht q)
  refine z_iload (pc' := 769) C 1 dL_law_767 rfl rfl ?_
  refine z_if_ne (pc' := 772) C 783 (if_neg (by decide) : (if (1 : Int32) = 0 then (none : Option Unit) else some ()) = some ()) dL_law_769 rfl rfl (fun _ _ => ?_) (fun q _ => absurd q (by decide))
  refine z_goto C 2707 dL_law_783 rfl ?_
  refine z_pick (lv' := lw_lv w b i) [2, 3, 4, 5, 6] rfl ?_
  exact kk _ _ _ (by dsimp only [zrx, zr]; omega) (by dsimp only [zrx, zr]; omega)
theorem lc_presentSum (hN : 396 ≤ N) (hC : lw_C X w b L xs) (hs : lw_sc L xs i q) (hk : k + 12 ≤ 601024) (hn : n + 1000 ≤ 7293033) (hG : PgW w N 0 (zu h0 389 (mL w ρ u)) σ) {v : Int64} {b9 : Int64} (hf : f_X8_presentSum σ (q 1) = some (.inr (v, σ'))) (hg : g_X9_presentSum ρ (q 1) = some (b9, ρ')) (ht : md_thrown ρ' = 0) (hv : v = b9) (kk : lw_N X w Q b i N h0 k n σ' ρ') : zZ X w Q k n false N (gW w h0 σ ρ u) 786 (lw_lv w b i) [] := by
  obtain ⟨C, hX, hb, hw⟩ := hC
  refine z_aload_n (pc' := 787) C 3 dL_law_786 rfl rfl rfl ?_
  refine z_aload_n (pc' := 788) C 4 dL_law_787 rfl rfl rfl ?_
  refine z_iload (pc' := 790) C 0 dL_law_788 rfl rfl ?_
  refine z_iconst (pc' := 791) C dL_law_790 zk_iconst_1 rfl ?_
  refine z_iadd (pc' := 792) C dL_law_791 rfl ?_
  refine z_sld (pc' := 793) C hX hb hw (v := q 1) (hs 1 (by decide)) dL_law_792 rfl ?_
  refine z_aload_n (pc' := 794) C 1 dL_law_793 rfl rfl rfl ?_
  refine z_callSW (pc' := 797) (m := 3) (st := []) (h' := gW w h0 σ' ρ (vp_updL u 0 (v))) C (zMw_eq gW_o (c_L_presentSum (a := 0) (c0 := 395) (N := N) (by omega) (by omega) (zc_w (a := 389) (o := 6) (by omega) rfl) hG hf)) zw_786 zw_0 (by decide +kernel) zw_784 zw_785 rfl rfl rfl rfl (room_ok hk hn (by dsimp only [zrx, zr]; omega) (by dsimp only [zrx, zr]; omega)) dL_law_794 rfl ?_
  refine z_istore (pc' := 799) C _ dL_law_797 rfl rfl rfl ?_
  refine z_aload_n (pc' := 800) C 3 dL_law_799 rfl rfl rfl ?_
  refine z_aload_n (pc' := 801) C 5 dL_law_800 rfl rfl rfl ?_
  refine z_iload (pc' := 803) C 1 dL_law_801 rfl rfl ?_
  refine z_iconst (pc' := 804) C dL_law_803 zk_iconst_1 rfl ?_
  refine z_iadd (pc' := 805) C dL_law_804 rfl ?_
  refine z_sld (pc' := 806) C hX hb hw (v := q 1) (hs 1 (by decide)) dL_law_805 rfl ?_
  refine z_callV (pc' := 809) (st := []) (h' := gW w h0 σ' ρ' (vp_updL u 0 (v))) C (d_X9_presentSum hN  hg) zy_X9_presentSum zw_1449 zw_1450 zw_1451 (ci := 9) rfl (gW_c (k := 0) (by omega) rfl) rfl rfl rfl rfl (room_ok hk hn (by dsimp only [zrx, zr]; omega) (by dsimp only [zrx, zr]; omega)) dL_law_806 rfl ?_
  refine z_lstore (pc' := 811) C _ dL_law_809 rfl rfl rfl ?_
  refine z_aload_n (pc' := 812) C 4 dL_law_811 rfl rfl rfl ?_
  refine z_callV (pc' := 815) (st := []) (h' := gW w h0 σ' ρ' (vp_updL u 0 (v))) C (d_X9_thrown hN (v := md_thrown ρ') rfl) zy_X9_thrown zw_1236 zw_1237 zw_1238 (ci := 9) rfl (gW_c (k := 0) (by omega) rfl) rfl rfl rfl rfl (room_ok hk hn (by dsimp only [zrx, zr]; omega) (by dsimp only [zrx, zr]; omega)) dL_law_812 rfl ?_
  refine z_iload (pc' := 817) C 1 dL_law_815 rfl rfl ?_
  refine z_icmp_eq (pc' := 820) C 822 (if_pos ht : (if _ = _ then some () else (none : Option Unit)) = some ()) dL_law_817 rfl rfl (fun _ _ => ?_) (fun q _ => absurd ht q)
  refine z_iload (pc' := 824) C 1 dL_law_822 rfl rfl ?_
  refine z_if_ne (pc' := 827) C 838 (if_pos rfl : (if (0 : Int32) = 0 then some () else (none : Option Unit)) = some ()) dL_law_824 rfl rfl (fun q _ => absurd rfl q) (fun _ _ => ?_)
  refine z_aload_n (pc' := 828) C 3 dL_law_827 rfl rfl rfl ?_
  refine z_iconst (pc' := 829) C dL_law_828 zk_iconst_0 rfl ?_
  refine z_lald (pc' := 830) C (K := fun v => some v) rfl (gW_c (k := 6) (by omega) rfl) dL_law_829 rfl (fun v0 hv0 => ?_)
  cases hv0
  refine z_lload (pc' := 832) C 0 dL_law_830 rfl rfl ?_
  refine z_lcmp_eq (pc' := 836) (pc1 := 833) C 838 (if_pos hv : (if _ = _ then some () else (none : Option Unit)) = some ()) dL_law_832 rfl dL_law_833 rfl rfl (fun _ _ => ?_) (fun q _ => absurd hv q)
  refine z_goto C 2707 dL_law_838 rfl ?_
  refine z_pick (lv' := lw_lv w b i) [2, 3, 4, 5, 6] rfl ?_
  exact kk _ _ _ (by dsimp only [zrx, zr]; omega) (by dsimp only [zrx, zr]; omega)
theorem lc_presentSum_x1 (hN : 396 ≤ N) (hC : lw_C X w b L xs) (hs : lw_sc L xs i q) (hk : k + 12 ≤ 601024) (hn : n + 1000 ≤ 7293033) (hG : PgW w N 0 (zu h0 389 (mL w ρ u)) σ) {b9 : Int64} (hf : f_X8_presentSum σ (q 1) = some (.inl ("java/lang/IndexOutOfBoundsException", σ'))) (hg : g_X9_presentSum ρ (q 1) = some (b9, ρ')) (ht : md_thrown ρ' = 1) (kk : lw_N X w Q b i N h0 k n σ' ρ') : zZ X w Q k n false N (gW w h0 σ ρ u) 786 (lw_lv w b i) [] := by
  obtain ⟨C, hX, hb, hw⟩ := hC
  refine z_aload_n (pc' := 787) C 3 dL_law_786 rfl rfl rfl ?_
  refine z_aload_n (pc' := 788) C 4 dL_law_787 rfl rfl rfl ?_
  refine z_iload (pc' := 790) C 0 dL_law_788 rfl rfl ?_
  refine z_iconst (pc' := 791) C dL_law_790 zk_iconst_1 rfl ?_
  refine z_iadd (pc' := 792) C dL_law_791 rfl ?_
  refine z_sld (pc' := 793) C hX hb hw (v := q 1) (hs 1 (by decide)) dL_law_792 rfl ?_
  refine z_aload_n (pc' := 794) C 1 dL_law_793 rfl rfl rfl ?_
  refine z_callSW (pc' := 797) (m := 3) (st := []) (h' := gW w h0 σ' ρ u) C (c_L_presentSum_1 (a := 0) (c0 := 395) (N := N) (by omega) (by omega) (zc_w (a := 389) (o := 6) (by omega) rfl) hG hf) zw_786 zw_0 (by decide +kernel) zw_784 zw_785 rfl rfl rfl rfl (room_ok hk hn (by dsimp only [zrx, zr]; omega) (by dsimp only [zrx, zr]; omega)) dL_law_794 rfl ?_
  refine z_istore (pc' := 799) C _ dL_law_797 rfl rfl rfl ?_
  refine z_aload_n (pc' := 800) C 3 dL_law_799 rfl rfl rfl ?_
  refine z_aload_n (pc' := 801) C 5 dL_law_800 rfl rfl rfl ?_
  refine z_iload (pc' := 803) C 1 dL_law_801 rfl rfl ?_
  refine z_iconst (pc' := 804) C dL_law_803 zk_iconst_1 rfl ?_
  refine z_iadd (pc' := 805) C dL_law_804 rfl ?_
  refine z_sld (pc' := 806) C hX hb hw (v := q 1) (hs 1 (by decide)) dL_law_805 rfl ?_
  refine z_callV (pc' := 809) (st := []) (h' := gW w h0 σ' ρ' u) C (d_X9_presentSum hN  hg) zy_X9_presentSum zw_1449 zw_1450 zw_1451 (ci := 9) rfl (gW_c (k := 0) (by omega) rfl) rfl rfl rfl rfl (room_ok hk hn (by dsimp only [zrx, zr]; omega) (by dsimp only [zrx, zr]; omega)) dL_law_806 rfl ?_
  refine z_lstore (pc' := 811) C _ dL_law_809 rfl rfl rfl ?_
  refine z_aload_n (pc' := 812) C 4 dL_law_811 rfl rfl rfl ?_
  refine z_callV (pc' := 815) (st := []) (h' := gW w h0 σ' ρ' u) C (d_X9_thrown hN (v := md_thrown ρ') rfl) zy_X9_thrown zw_1236 zw_1237 zw_1238 (ci := 9) rfl (gW_c (k := 0) (by omega) rfl) rfl rfl rfl rfl (room_ok hk hn (by dsimp only [zrx, zr]; omega) (by dsimp only [zrx, zr]; omega)) dL_law_812 rfl ?_
  refine z_iload (pc' := 817) C 1 dL_law_815 rfl rfl ?_
  refine z_icmp_eq (pc' := 820) C 822 (if_pos ht : (if _ = _ then some () else (none : Option Unit)) = some ()) dL_law_817 rfl rfl (fun _ _ => ?_) (fun q _ => absurd ht q)
  refine z_iload (pc' := 824) C 1 dL_law_822 rfl rfl ?_
  refine z_if_ne (pc' := 827) C 838 (if_neg (by decide) : (if (1 : Int32) = 0 then (none : Option Unit) else some ()) = some ()) dL_law_824 rfl rfl (fun _ _ => ?_) (fun q _ => absurd q (by decide))
  refine z_goto C 2707 dL_law_838 rfl ?_
  refine z_pick (lv' := lw_lv w b i) [2, 3, 4, 5, 6] rfl ?_
  exact kk _ _ _ (by dsimp only [zrx, zr]; omega) (by dsimp only [zrx, zr]; omega)
theorem lc_grossValue (hN : 396 ≤ N) (hC : lw_C X w b L xs) (hs : lw_sc L xs i q) (hk : k + 12 ≤ 601024) (hn : n + 1000 ≤ 7293033) (hG : PgW w N 0 (zu h0 389 (mL w ρ u)) σ) {v : Int64} {b9 : Int64} (hf : f_X8_grossValue σ (q 1) = some (.inr (v, σ'))) (hg : g_X9_grossValue ρ (q 1) = some (b9, ρ')) (ht : md_thrown ρ' = 0) (hv : v = b9) (kk : lw_N X w Q b i N h0 k n σ' ρ') : zZ X w Q k n false N (gW w h0 σ ρ u) 841 (lw_lv w b i) [] := by
  obtain ⟨C, hX, hb, hw⟩ := hC
  refine z_aload_n (pc' := 842) C 3 dL_law_841 rfl rfl rfl ?_
  refine z_aload_n (pc' := 843) C 4 dL_law_842 rfl rfl rfl ?_
  refine z_iload (pc' := 845) C 0 dL_law_843 rfl rfl ?_
  refine z_iconst (pc' := 846) C dL_law_845 zk_iconst_1 rfl ?_
  refine z_iadd (pc' := 847) C dL_law_846 rfl ?_
  refine z_sld (pc' := 848) C hX hb hw (v := q 1) (hs 1 (by decide)) dL_law_847 rfl ?_
  refine z_aload_n (pc' := 849) C 1 dL_law_848 rfl rfl rfl ?_
  refine z_callSW (pc' := 852) (m := 3) (st := []) (h' := gW w h0 σ' ρ (vp_updL u 0 (v))) C (zMw_eq gW_o (c_L_grossValue (a := 0) (c0 := 395) (N := N) (by omega) (by omega) (zc_w (a := 389) (o := 6) (by omega) rfl) hG hf)) zw_801 zw_0 (by decide +kernel) zw_799 zw_800 rfl rfl rfl rfl (room_ok hk hn (by dsimp only [zrx, zr]; omega) (by dsimp only [zrx, zr]; omega)) dL_law_849 rfl ?_
  refine z_istore (pc' := 854) C _ dL_law_852 rfl rfl rfl ?_
  refine z_aload_n (pc' := 855) C 3 dL_law_854 rfl rfl rfl ?_
  refine z_aload_n (pc' := 856) C 5 dL_law_855 rfl rfl rfl ?_
  refine z_iload (pc' := 858) C 1 dL_law_856 rfl rfl ?_
  refine z_iconst (pc' := 859) C dL_law_858 zk_iconst_1 rfl ?_
  refine z_iadd (pc' := 860) C dL_law_859 rfl ?_
  refine z_sld (pc' := 861) C hX hb hw (v := q 1) (hs 1 (by decide)) dL_law_860 rfl ?_
  refine z_callV (pc' := 864) (st := []) (h' := gW w h0 σ' ρ' (vp_updL u 0 (v))) C (d_X9_grossValue hN  hg) zy_X9_grossValue zw_1457 zw_1458 zw_1459 (ci := 9) rfl (gW_c (k := 0) (by omega) rfl) rfl rfl rfl rfl (room_ok hk hn (by dsimp only [zrx, zr]; omega) (by dsimp only [zrx, zr]; omega)) dL_law_861 rfl ?_
  refine z_lstore (pc' := 866) C _ dL_law_864 rfl rfl rfl ?_
  refine z_aload_n (pc' := 867) C 4 dL_law_866 rfl rfl rfl ?_
  refine z_callV (pc' := 870) (st := []) (h' := gW w h0 σ' ρ' (vp_updL u 0 (v))) C (d_X9_thrown hN (v := md_thrown ρ') rfl) zy_X9_thrown zw_1236 zw_1237 zw_1238 (ci := 9) rfl (gW_c (k := 0) (by omega) rfl) rfl rfl rfl rfl (room_ok hk hn (by dsimp only [zrx, zr]; omega) (by dsimp only [zrx, zr]; omega)) dL_law_867 rfl ?_
  refine z_iload (pc' := 872) C 1 dL_law_870 rfl rfl ?_
  refine z_icmp_eq (pc' := 875) C 877 (if_pos ht : (if _ = _ then some () else (none : Option Unit)) = some ()) dL_law_872 rfl rfl (fun _ _ => ?_) (fun q _ => absurd ht q)
  refine z_iload (pc' := 879) C 1 dL_law_877 rfl rfl ?_
  refine z_if_ne (pc' := 882) C 893 (if_pos rfl : (if (0 : Int32) = 0 then some () else (none : Option Unit)) = some ()) dL_law_879 rfl rfl (fun q _ => absurd rfl q) (fun _ _ => ?_)
  refine z_aload_n (pc' := 883) C 3 dL_law_882 rfl rfl rfl ?_
  refine z_iconst (pc' := 884) C dL_law_883 zk_iconst_0 rfl ?_
  refine z_lald (pc' := 885) C (K := fun v => some v) rfl (gW_c (k := 6) (by omega) rfl) dL_law_884 rfl (fun v0 hv0 => ?_)
  cases hv0
  refine z_lload (pc' := 887) C 0 dL_law_885 rfl rfl ?_
  refine z_lcmp_eq (pc' := 891) (pc1 := 888) C 893 (if_pos hv : (if _ = _ then some () else (none : Option Unit)) = some ()) dL_law_887 rfl dL_law_888 rfl rfl (fun _ _ => ?_) (fun q _ => absurd hv q)
  refine z_goto C 2707 dL_law_893 rfl ?_
  refine z_pick (lv' := lw_lv w b i) [2, 3, 4, 5, 6] rfl ?_
  exact kk _ _ _ (by dsimp only [zrx, zr]; omega) (by dsimp only [zrx, zr]; omega)
theorem lc_grossValue_x1 (hN : 396 ≤ N) (hC : lw_C X w b L xs) (hs : lw_sc L xs i q) (hk : k + 12 ≤ 601024) (hn : n + 1000 ≤ 7293033) (hG : PgW w N 0 (zu h0 389 (mL w ρ u)) σ) {b9 : Int64} (hf : f_X8_grossValue σ (q 1) = some (.inl ("java/lang/IndexOutOfBoundsException", σ'))) (hg : g_X9_grossValue ρ (q 1) = some (b9, ρ')) (ht : md_thrown ρ' = 1) (kk : lw_N X w Q b i N h0 k n σ' ρ') : zZ X w Q k n false N (gW w h0 σ ρ u) 841 (lw_lv w b i) [] := by
  obtain ⟨C, hX, hb, hw⟩ := hC
  refine z_aload_n (pc' := 842) C 3 dL_law_841 rfl rfl rfl ?_
  refine z_aload_n (pc' := 843) C 4 dL_law_842 rfl rfl rfl ?_
  refine z_iload (pc' := 845) C 0 dL_law_843 rfl rfl ?_
  refine z_iconst (pc' := 846) C dL_law_845 zk_iconst_1 rfl ?_
  refine z_iadd (pc' := 847) C dL_law_846 rfl ?_
  refine z_sld (pc' := 848) C hX hb hw (v := q 1) (hs 1 (by decide)) dL_law_847 rfl ?_
  refine z_aload_n (pc' := 849) C 1 dL_law_848 rfl rfl rfl ?_
  refine z_callSW (pc' := 852) (m := 3) (st := []) (h' := gW w h0 σ' ρ u) C (c_L_grossValue_1 (a := 0) (c0 := 395) (N := N) (by omega) (by omega) (zc_w (a := 389) (o := 6) (by omega) rfl) hG hf) zw_801 zw_0 (by decide +kernel) zw_799 zw_800 rfl rfl rfl rfl (room_ok hk hn (by dsimp only [zrx, zr]; omega) (by dsimp only [zrx, zr]; omega)) dL_law_849 rfl ?_
  refine z_istore (pc' := 854) C _ dL_law_852 rfl rfl rfl ?_
  refine z_aload_n (pc' := 855) C 3 dL_law_854 rfl rfl rfl ?_
  refine z_aload_n (pc' := 856) C 5 dL_law_855 rfl rfl rfl ?_
  refine z_iload (pc' := 858) C 1 dL_law_856 rfl rfl ?_
  refine z_iconst (pc' := 859) C dL_law_858 zk_iconst_1 rfl ?_
  refine z_iadd (pc' := 860) C dL_law_859 rfl ?_
  refine z_sld (pc' := 861) C hX hb hw (v := q 1) (hs 1 (by decide)) dL_law_860 rfl ?_
  refine z_callV (pc' := 864) (st := []) (h' := gW w h0 σ' ρ' u) C (d_X9_grossValue hN  hg) zy_X9_grossValue zw_1457 zw_1458 zw_1459 (ci := 9) rfl (gW_c (k := 0) (by omega) rfl) rfl rfl rfl rfl (room_ok hk hn (by dsimp only [zrx, zr]; omega) (by dsimp only [zrx, zr]; omega)) dL_law_861 rfl ?_
  refine z_lstore (pc' := 866) C _ dL_law_864 rfl rfl rfl ?_
  refine z_aload_n (pc' := 867) C 4 dL_law_866 rfl rfl rfl ?_
  refine z_callV (pc' := 870) (st := []) (h' := gW w h0 σ' ρ' u) C (d_X9_thrown hN (v := md_thrown ρ') rfl) zy_X9_thrown zw_1236 zw_1237 zw_1238 (ci := 9) rfl (gW_c (k := 0) (by omega) rfl) rfl rfl rfl rfl (room_ok hk hn (by dsimp only [zrx, zr]; omega) (by dsimp only [zrx, zr]; omega)) dL_law_867 rfl ?_
  refine z_iload (pc' := 872) C 1 dL_law_870 rfl rfl ?_
  refine z_icmp_eq (pc' := 875) C 877 (if_pos ht : (if _ = _ then some () else (none : Option Unit)) = some ()) dL_law_872 rfl rfl (fun _ _ => ?_) (fun q _ => absurd ht q)
  refine z_iload (pc' := 879) C 1 dL_law_877 rfl rfl ?_
  refine z_if_ne (pc' := 882) C 893 (if_neg (by decide) : (if (1 : Int32) = 0 then (none : Option Unit) else some ()) = some ()) dL_law_879 rfl rfl (fun _ _ => ?_) (fun q _ => absurd q (by decide))
  refine z_goto C 2707 dL_law_893 rfl ?_
  refine z_pick (lv' := lw_lv w b i) [2, 3, 4, 5, 6] rfl ?_
  exact kk _ _ _ (by dsimp only [zrx, zr]; omega) (by dsimp only [zrx, zr]; omega)
theorem lc_retention (hN : 396 ≤ N) (hC : lw_C X w b L xs) (hs : lw_sc L xs i q) (hk : k + 12 ≤ 601024) (hn : n + 1000 ≤ 7293033) (hG : PgW w N 0 (zu h0 389 (mL w ρ u)) σ) {v : Int64} {b9 : Int64} (hf : f_X8_retention σ (q 1) = some (.inr (v, σ'))) (hg : g_X9_retention ρ (q 1) = some (b9, ρ')) (ht : md_thrown ρ' = 0) (hv : v = b9) (kk : lw_N X w Q b i N h0 k n σ' ρ') : zZ X w Q k n false N (gW w h0 σ ρ u) 896 (lw_lv w b i) [] := by
  obtain ⟨C, hX, hb, hw⟩ := hC
  refine z_aload_n (pc' := 897) C 3 dL_law_896 rfl rfl rfl ?_
  refine z_aload_n (pc' := 898) C 4 dL_law_897 rfl rfl rfl ?_
  refine z_iload (pc' := 900) C 0 dL_law_898 rfl rfl ?_
  refine z_iconst (pc' := 901) C dL_law_900 zk_iconst_1 rfl ?_
  refine z_iadd (pc' := 902) C dL_law_901 rfl ?_
  refine z_sld (pc' := 903) C hX hb hw (v := q 1) (hs 1 (by decide)) dL_law_902 rfl ?_
  refine z_aload_n (pc' := 904) C 1 dL_law_903 rfl rfl rfl ?_
  refine z_callSW (pc' := 907) (m := 3) (st := []) (h' := gW w h0 σ' ρ (vp_updL u 0 (v))) C (zMw_eq gW_o (c_L_retention (a := 0) (c0 := 395) (N := N) (by omega) (by omega) (zc_w (a := 389) (o := 6) (by omega) rfl) hG hf)) zw_809 zw_0 (by decide +kernel) zw_807 zw_808 rfl rfl rfl rfl (room_ok hk hn (by dsimp only [zrx, zr]; omega) (by dsimp only [zrx, zr]; omega)) dL_law_904 rfl ?_
  refine z_istore (pc' := 909) C _ dL_law_907 rfl rfl rfl ?_
  refine z_aload_n (pc' := 910) C 3 dL_law_909 rfl rfl rfl ?_
  refine z_aload_n (pc' := 911) C 5 dL_law_910 rfl rfl rfl ?_
  refine z_iload (pc' := 913) C 1 dL_law_911 rfl rfl ?_
  refine z_iconst (pc' := 914) C dL_law_913 zk_iconst_1 rfl ?_
  refine z_iadd (pc' := 915) C dL_law_914 rfl ?_
  refine z_sld (pc' := 916) C hX hb hw (v := q 1) (hs 1 (by decide)) dL_law_915 rfl ?_
  refine z_callV (pc' := 919) (st := []) (h' := gW w h0 σ' ρ' (vp_updL u 0 (v))) C (d_X9_retention hN  hg) zy_X9_retention zw_1465 zw_1466 zw_1467 (ci := 9) rfl (gW_c (k := 0) (by omega) rfl) rfl rfl rfl rfl (room_ok hk hn (by dsimp only [zrx, zr]; omega) (by dsimp only [zrx, zr]; omega)) dL_law_916 rfl ?_
  refine z_lstore (pc' := 921) C _ dL_law_919 rfl rfl rfl ?_
  refine z_aload_n (pc' := 922) C 4 dL_law_921 rfl rfl rfl ?_
  refine z_callV (pc' := 925) (st := []) (h' := gW w h0 σ' ρ' (vp_updL u 0 (v))) C (d_X9_thrown hN (v := md_thrown ρ') rfl) zy_X9_thrown zw_1236 zw_1237 zw_1238 (ci := 9) rfl (gW_c (k := 0) (by omega) rfl) rfl rfl rfl rfl (room_ok hk hn (by dsimp only [zrx, zr]; omega) (by dsimp only [zrx, zr]; omega)) dL_law_922 rfl ?_
  refine z_iload (pc' := 927) C 1 dL_law_925 rfl rfl ?_
  refine z_icmp_eq (pc' := 930) C 932 (if_pos ht : (if _ = _ then some () else (none : Option Unit)) = some ()) dL_law_927 rfl rfl (fun _ _ => ?_) (fun q _ => absurd ht q)
  refine z_iload (pc' := 934) C 1 dL_law_932 rfl rfl ?_
  refine z_if_ne (pc' := 937) C 948 (if_pos rfl : (if (0 : Int32) = 0 then some () else (none : Option Unit)) = some ()) dL_law_934 rfl rfl (fun q _ => absurd rfl q) (fun _ _ => ?_)
  refine z_aload_n (pc' := 938) C 3 dL_law_937 rfl rfl rfl ?_
  refine z_iconst (pc' := 939) C dL_law_938 zk_iconst_0 rfl ?_
  refine z_lald (pc' := 940) C (K := fun v => some v) rfl (gW_c (k := 6) (by omega) rfl) dL_law_939 rfl (fun v0 hv0 => ?_)
  cases hv0
  refine z_lload (pc' := 942) C 0 dL_law_940 rfl rfl ?_
  refine z_lcmp_eq (pc' := 946) (pc1 := 943) C 948 (if_pos hv : (if _ = _ then some () else (none : Option Unit)) = some ()) dL_law_942 rfl dL_law_943 rfl rfl (fun _ _ => ?_) (fun q _ => absurd hv q)
  refine z_goto C 2707 dL_law_948 rfl ?_
  refine z_pick (lv' := lw_lv w b i) [2, 3, 4, 5, 6] rfl ?_
  exact kk _ _ _ (by dsimp only [zrx, zr]; omega) (by dsimp only [zrx, zr]; omega)
theorem lc_retention_x1 (hN : 396 ≤ N) (hC : lw_C X w b L xs) (hs : lw_sc L xs i q) (hk : k + 12 ≤ 601024) (hn : n + 1000 ≤ 7293033) (hG : PgW w N 0 (zu h0 389 (mL w ρ u)) σ) {b9 : Int64} (hf : f_X8_retention σ (q 1) = some (.inl ("java/lang/IndexOutOfBoundsException", σ'))) (hg : g_X9_retention ρ (q 1) = some (b9, ρ')) (ht : md_thrown ρ' = 1) (kk : lw_N X w Q b i N h0 k n σ' ρ') : zZ X w Q k n false N (gW w h0 σ ρ u) 896 (lw_lv w b i) [] := by
  obtain ⟨C, hX, hb, hw⟩ := hC
  refine z_aload_n (pc' := 897) C 3 dL_law_896 rfl rfl rfl ?_
  refine z_aload_n (pc' := 898) C 4 dL_law_897 rfl rfl rfl ?_
  refine z_iload (pc' := 900) C 0 dL_law_898 rfl rfl ?_
  refine z_iconst (pc' := 901) C dL_law_900 zk_iconst_1 rfl ?_
  refine z_iadd (pc' := 902) C dL_law_901 rfl ?_
  refine z_sld (pc' := 903) C hX hb hw (v := q 1) (hs 1 (by decide)) dL_law_902 rfl ?_
  refine z_aload_n (pc' := 904) C 1 dL_law_903 rfl rfl rfl ?_
  refine z_callSW (pc' := 907) (m := 3) (st := []) (h' := gW w h0 σ' ρ u) C (c_L_retention_1 (a := 0) (c0 := 395) (N := N) (by omega) (by omega) (zc_w (a := 389) (o := 6) (by omega) rfl) hG hf) zw_809 zw_0 (by decide +kernel) zw_807 zw_808 rfl rfl rfl rfl (room_ok hk hn (by dsimp only [zrx, zr]; omega) (by dsimp only [zrx, zr]; omega)) dL_law_904 rfl ?_
  refine z_istore (pc' := 909) C _ dL_law_907 rfl rfl rfl ?_
  refine z_aload_n (pc' := 910) C 3 dL_law_909 rfl rfl rfl ?_
  refine z_aload_n (pc' := 911) C 5 dL_law_910 rfl rfl rfl ?_
  refine z_iload (pc' := 913) C 1 dL_law_911 rfl rfl ?_
  refine z_iconst (pc' := 914) C dL_law_913 zk_iconst_1 rfl ?_
  refine z_iadd (pc' := 915) C dL_law_914 rfl ?_
  refine z_sld (pc' := 916) C hX hb hw (v := q 1) (hs 1 (by decide)) dL_law_915 rfl ?_
  refine z_callV (pc' := 919) (st := []) (h' := gW w h0 σ' ρ' u) C (d_X9_retention hN  hg) zy_X9_retention zw_1465 zw_1466 zw_1467 (ci := 9) rfl (gW_c (k := 0) (by omega) rfl) rfl rfl rfl rfl (room_ok hk hn (by dsimp only [zrx, zr]; omega) (by dsimp only [zrx, zr]; omega)) dL_law_916 rfl ?_
  refine z_lstore (pc' := 921) C _ dL_law_919 rfl rfl rfl ?_
  refine z_aload_n (pc' := 922) C 4 dL_law_921 rfl rfl rfl ?_
  refine z_callV (pc' := 925) (st := []) (h' := gW w h0 σ' ρ' u) C (d_X9_thrown hN (v := md_thrown ρ') rfl) zy_X9_thrown zw_1236 zw_1237 zw_1238 (ci := 9) rfl (gW_c (k := 0) (by omega) rfl) rfl rfl rfl rfl (room_ok hk hn (by dsimp only [zrx, zr]; omega) (by dsimp only [zrx, zr]; omega)) dL_law_922 rfl ?_
  refine z_iload (pc' := 927) C 1 dL_law_925 rfl rfl ?_
  refine z_icmp_eq (pc' := 930) C 932 (if_pos ht : (if _ = _ then some () else (none : Option Unit)) = some ()) dL_law_927 rfl rfl (fun _ _ => ?_) (fun q _ => absurd ht q)
  refine z_iload (pc' := 934) C 1 dL_law_932 rfl rfl ?_
  refine z_if_ne (pc' := 937) C 948 (if_neg (by decide) : (if (1 : Int32) = 0 then (none : Option Unit) else some ()) = some ()) dL_law_934 rfl rfl (fun _ _ => ?_) (fun q _ => absurd q (by decide))
  refine z_goto C 2707 dL_law_948 rfl ?_
  refine z_pick (lv' := lw_lv w b i) [2, 3, 4, 5, 6] rfl ?_
  exact kk _ _ _ (by dsimp only [zrx, zr]; omega) (by dsimp only [zrx, zr]; omega)
theorem lc_certified (hN : 396 ≤ N) (hC : lw_C X w b L xs) (hs : lw_sc L xs i q) (hk : k + 12 ≤ 601024) (hn : n + 1000 ≤ 7293033) {v : Int64} {b9 : Int64} (hf : f_X8_certified σ (q 1) = some (.inr v)) (hg : g_X9_certified ρ (q 1) = some (b9, ρ')) (ht : md_thrown ρ' = 0) (hv : v = b9) (kk : lw_N X w Q b i N h0 k n σ ρ') : zZ X w Q k n false N (gW w h0 σ ρ u) 951 (lw_lv w b i) [] := by
  obtain ⟨C, hX, hb, hw⟩ := hC
  refine z_aload_n (pc' := 952) C 3 dL_law_951 rfl rfl rfl ?_
  refine z_aload_n (pc' := 953) C 4 dL_law_952 rfl rfl rfl ?_
  refine z_iload (pc' := 955) C 0 dL_law_953 rfl rfl ?_
  refine z_iconst (pc' := 956) C dL_law_955 zk_iconst_1 rfl ?_
  refine z_iadd (pc' := 957) C dL_law_956 rfl ?_
  refine z_sld (pc' := 958) C hX hb hw (v := q 1) (hs 1 (by decide)) dL_law_957 rfl ?_
  refine z_aload_n (pc' := 959) C 1 dL_law_958 rfl rfl rfl ?_
  refine z_callSW (pc' := 962) (m := 3) (st := []) (h' := gW w h0 σ ρ (vp_updL u 0 (v))) C (zMw_eq gW_o (c_L_certified (a := 0) (c0 := 395) (N := N) (by omega) (by omega) (zc_w (a := 389) (o := 6) (by omega) rfl) hf)) zw_823 zw_0 (by decide +kernel) zw_821 zw_822 rfl rfl rfl rfl (room_ok hk hn (by dsimp only [zrx, zr]; omega) (by dsimp only [zrx, zr]; omega)) dL_law_959 rfl ?_
  refine z_istore (pc' := 964) C _ dL_law_962 rfl rfl rfl ?_
  refine z_aload_n (pc' := 965) C 3 dL_law_964 rfl rfl rfl ?_
  refine z_aload_n (pc' := 966) C 5 dL_law_965 rfl rfl rfl ?_
  refine z_iload (pc' := 968) C 1 dL_law_966 rfl rfl ?_
  refine z_iconst (pc' := 969) C dL_law_968 zk_iconst_1 rfl ?_
  refine z_iadd (pc' := 970) C dL_law_969 rfl ?_
  refine z_sld (pc' := 971) C hX hb hw (v := q 1) (hs 1 (by decide)) dL_law_970 rfl ?_
  refine z_callV (pc' := 974) (st := []) (h' := gW w h0 σ ρ' (vp_updL u 0 (v))) C (d_X9_certified hN  hg) zy_X9_certified zw_1486 zw_1487 zw_1488 (ci := 9) rfl (gW_c (k := 0) (by omega) rfl) rfl rfl rfl rfl (room_ok hk hn (by dsimp only [zrx, zr]; omega) (by dsimp only [zrx, zr]; omega)) dL_law_971 rfl ?_
  refine z_lstore (pc' := 976) C _ dL_law_974 rfl rfl rfl ?_
  refine z_aload_n (pc' := 977) C 4 dL_law_976 rfl rfl rfl ?_
  refine z_callV (pc' := 980) (st := []) (h' := gW w h0 σ ρ' (vp_updL u 0 (v))) C (d_X9_thrown hN (v := md_thrown ρ') rfl) zy_X9_thrown zw_1236 zw_1237 zw_1238 (ci := 9) rfl (gW_c (k := 0) (by omega) rfl) rfl rfl rfl rfl (room_ok hk hn (by dsimp only [zrx, zr]; omega) (by dsimp only [zrx, zr]; omega)) dL_law_977 rfl ?_
  refine z_iload (pc' := 982) C 1 dL_law_980 rfl rfl ?_
  refine z_icmp_eq (pc' := 985) C 987 (if_pos ht : (if _ = _ then some () else (none : Option Unit)) = some ()) dL_law_982 rfl rfl (fun _ _ => ?_) (fun q _ => absurd ht q)
  refine z_iload (pc' := 989) C 1 dL_law_987 rfl rfl ?_
  refine z_if_ne (pc' := 992) C 1003 (if_pos rfl : (if (0 : Int32) = 0 then some () else (none : Option Unit)) = some ()) dL_law_989 rfl rfl (fun q _ => absurd rfl q) (fun _ _ => ?_)
  refine z_aload_n (pc' := 993) C 3 dL_law_992 rfl rfl rfl ?_
  refine z_iconst (pc' := 994) C dL_law_993 zk_iconst_0 rfl ?_
  refine z_lald (pc' := 995) C (K := fun v => some v) rfl (gW_c (k := 6) (by omega) rfl) dL_law_994 rfl (fun v0 hv0 => ?_)
  cases hv0
  refine z_lload (pc' := 997) C 0 dL_law_995 rfl rfl ?_
  refine z_lcmp_eq (pc' := 1001) (pc1 := 998) C 1003 (if_pos hv : (if _ = _ then some () else (none : Option Unit)) = some ()) dL_law_997 rfl dL_law_998 rfl rfl (fun _ _ => ?_) (fun q _ => absurd hv q)
  refine z_goto C 2707 dL_law_1003 rfl ?_
  refine z_pick (lv' := lw_lv w b i) [2, 3, 4, 5, 6] rfl ?_
  exact kk _ _ _ (by dsimp only [zrx, zr]; omega) (by dsimp only [zrx, zr]; omega)
theorem lc_certified_x1 (hN : 396 ≤ N) (hC : lw_C X w b L xs) (hs : lw_sc L xs i q) (hk : k + 12 ≤ 601024) (hn : n + 1000 ≤ 7293033) {b9 : Int64} (hf : f_X8_certified σ (q 1) = some (.inl "java/lang/IndexOutOfBoundsException")) (hg : g_X9_certified ρ (q 1) = some (b9, ρ')) (ht : md_thrown ρ' = 1) (kk : lw_N X w Q b i N h0 k n σ ρ') : zZ X w Q k n false N (gW w h0 σ ρ u) 951 (lw_lv w b i) [] := by
  obtain ⟨C, hX, hb, hw⟩ := hC
  refine z_aload_n (pc' := 952) C 3 dL_law_951 rfl rfl rfl ?_
  refine z_aload_n (pc' := 953) C 4 dL_law_952 rfl rfl rfl ?_
  refine z_iload (pc' := 955) C 0 dL_law_953 rfl rfl ?_
  refine z_iconst (pc' := 956) C dL_law_955 zk_iconst_1 rfl ?_
  refine z_iadd (pc' := 957) C dL_law_956 rfl ?_
  refine z_sld (pc' := 958) C hX hb hw (v := q 1) (hs 1 (by decide)) dL_law_957 rfl ?_
  refine z_aload_n (pc' := 959) C 1 dL_law_958 rfl rfl rfl ?_
  refine z_callSW (pc' := 962) (m := 3) (st := []) (h' := gW w h0 σ ρ u) C (c_L_certified_1 (a := 0) (c0 := 395) (N := N) (by omega) (by omega) (zc_w (a := 389) (o := 6) (by omega) rfl) hf) zw_823 zw_0 (by decide +kernel) zw_821 zw_822 rfl rfl rfl rfl (room_ok hk hn (by dsimp only [zrx, zr]; omega) (by dsimp only [zrx, zr]; omega)) dL_law_959 rfl ?_
  refine z_istore (pc' := 964) C _ dL_law_962 rfl rfl rfl ?_
  refine z_aload_n (pc' := 965) C 3 dL_law_964 rfl rfl rfl ?_
  refine z_aload_n (pc' := 966) C 5 dL_law_965 rfl rfl rfl ?_
  refine z_iload (pc' := 968) C 1 dL_law_966 rfl rfl ?_
  refine z_iconst (pc' := 969) C dL_law_968 zk_iconst_1 rfl ?_
  refine z_iadd (pc' := 970) C dL_law_969 rfl ?_
  refine z_sld (pc' := 971) C hX hb hw (v := q 1) (hs 1 (by decide)) dL_law_970 rfl ?_
  refine z_callV (pc' := 974) (st := []) (h' := gW w h0 σ ρ' u) C (d_X9_certified hN  hg) zy_X9_certified zw_1486 zw_1487 zw_1488 (ci := 9) rfl (gW_c (k := 0) (by omega) rfl) rfl rfl rfl rfl (room_ok hk hn (by dsimp only [zrx, zr]; omega) (by dsimp only [zrx, zr]; omega)) dL_law_971 rfl ?_
  refine z_lstore (pc' := 976) C _ dL_law_974 rfl rfl rfl ?_
  refine z_aload_n (pc' := 977) C 4 dL_law_976 rfl rfl rfl ?_
  refine z_callV (pc' := 980) (st := []) (h' := gW w h0 σ ρ' u) C (d_X9_thrown hN (v := md_thrown ρ') rfl) zy_X9_thrown zw_1236 zw_1237 zw_1238 (ci := 9) rfl (gW_c (k := 0) (by omega) rfl) rfl rfl rfl rfl (room_ok hk hn (by dsimp only [zrx, zr]; omega) (by dsimp only [zrx, zr]; omega)) dL_law_977 rfl ?_
  refine z_iload (pc' := 982) C 1 dL_law_980 rfl rfl ?_
  refine z_icmp_eq (pc' := 985) C 987 (if_pos ht : (if _ = _ then some () else (none : Option Unit)) = some ()) dL_law_982 rfl rfl (fun _ _ => ?_) (fun q _ => absurd ht q)
  refine z_iload (pc' := 989) C 1 dL_law_987 rfl rfl ?_
  refine z_if_ne (pc' := 992) C 1003 (if_neg (by decide) : (if (1 : Int32) = 0 then (none : Option Unit) else some ()) = some ()) dL_law_989 rfl rfl (fun _ _ => ?_) (fun q _ => absurd q (by decide))
  refine z_goto C 2707 dL_law_1003 rfl ?_
  refine z_pick (lv' := lw_lv w b i) [2, 3, 4, 5, 6] rfl ?_
  exact kk _ _ _ (by dsimp only [zrx, zr]; omega) (by dsimp only [zrx, zr]; omega)
theorem lc_unpaid (hN : 396 ≤ N) (hC : lw_C X w b L xs) (hs : lw_sc L xs i q) (hk : k + 12 ≤ 601024) (hn : n + 1000 ≤ 7293033) {v : Int64} {b9 : Int64} (hf : f_X8_unpaid σ (q 1) = some (.inr v)) (hg : g_X9_unpaid ρ (q 1) = some (b9, ρ')) (ht : md_thrown ρ' = 0) (hv : v = b9) (kk : lw_N X w Q b i N h0 k n σ ρ') : zZ X w Q k n false N (gW w h0 σ ρ u) 1006 (lw_lv w b i) [] := by
  obtain ⟨C, hX, hb, hw⟩ := hC
  refine z_aload_n (pc' := 1007) C 3 dL_law_1006 rfl rfl rfl ?_
  refine z_aload_n (pc' := 1008) C 4 dL_law_1007 rfl rfl rfl ?_
  refine z_iload (pc' := 1010) C 0 dL_law_1008 rfl rfl ?_
  refine z_iconst (pc' := 1011) C dL_law_1010 zk_iconst_1 rfl ?_
  refine z_iadd (pc' := 1012) C dL_law_1011 rfl ?_
  refine z_sld (pc' := 1013) C hX hb hw (v := q 1) (hs 1 (by decide)) dL_law_1012 rfl ?_
  refine z_aload_n (pc' := 1014) C 1 dL_law_1013 rfl rfl rfl ?_
  refine z_callSW (pc' := 1017) (m := 3) (st := []) (h' := gW w h0 σ ρ (vp_updL u 0 (v))) C (zMw_eq gW_o (c_L_unpaid (a := 0) (c0 := 395) (N := N) (by omega) (by omega) (zc_w (a := 389) (o := 6) (by omega) rfl) hf)) zw_831 zw_0 (by decide +kernel) zw_829 zw_830 rfl rfl rfl rfl (room_ok hk hn (by dsimp only [zrx, zr]; omega) (by dsimp only [zrx, zr]; omega)) dL_law_1014 rfl ?_
  refine z_istore (pc' := 1019) C _ dL_law_1017 rfl rfl rfl ?_
  refine z_aload_n (pc' := 1020) C 3 dL_law_1019 rfl rfl rfl ?_
  refine z_aload_n (pc' := 1021) C 5 dL_law_1020 rfl rfl rfl ?_
  refine z_iload (pc' := 1023) C 1 dL_law_1021 rfl rfl ?_
  refine z_iconst (pc' := 1024) C dL_law_1023 zk_iconst_1 rfl ?_
  refine z_iadd (pc' := 1025) C dL_law_1024 rfl ?_
  refine z_sld (pc' := 1026) C hX hb hw (v := q 1) (hs 1 (by decide)) dL_law_1025 rfl ?_
  refine z_callV (pc' := 1029) (st := []) (h' := gW w h0 σ ρ' (vp_updL u 0 (v))) C (d_X9_unpaid hN  hg) zy_X9_unpaid zw_1497 zw_1498 zw_1499 (ci := 9) rfl (gW_c (k := 0) (by omega) rfl) rfl rfl rfl rfl (room_ok hk hn (by dsimp only [zrx, zr]; omega) (by dsimp only [zrx, zr]; omega)) dL_law_1026 rfl ?_
  refine z_lstore (pc' := 1031) C _ dL_law_1029 rfl rfl rfl ?_
  refine z_aload_n (pc' := 1032) C 4 dL_law_1031 rfl rfl rfl ?_
  refine z_callV (pc' := 1035) (st := []) (h' := gW w h0 σ ρ' (vp_updL u 0 (v))) C (d_X9_thrown hN (v := md_thrown ρ') rfl) zy_X9_thrown zw_1236 zw_1237 zw_1238 (ci := 9) rfl (gW_c (k := 0) (by omega) rfl) rfl rfl rfl rfl (room_ok hk hn (by dsimp only [zrx, zr]; omega) (by dsimp only [zrx, zr]; omega)) dL_law_1032 rfl ?_
  refine z_iload (pc' := 1037) C 1 dL_law_1035 rfl rfl ?_
  refine z_icmp_eq (pc' := 1040) C 1042 (if_pos ht : (if _ = _ then some () else (none : Option Unit)) = some ()) dL_law_1037 rfl rfl (fun _ _ => ?_) (fun q _ => absurd ht q)
  refine z_iload (pc' := 1044) C 1 dL_law_1042 rfl rfl ?_
  refine z_if_ne (pc' := 1047) C 1058 (if_pos rfl : (if (0 : Int32) = 0 then some () else (none : Option Unit)) = some ()) dL_law_1044 rfl rfl (fun q _ => absurd rfl q) (fun _ _ => ?_)
  refine z_aload_n (pc' := 1048) C 3 dL_law_1047 rfl rfl rfl ?_
  refine z_iconst (pc' := 1049) C dL_law_1048 zk_iconst_0 rfl ?_
  refine z_lald (pc' := 1050) C (K := fun v => some v) rfl (gW_c (k := 6) (by omega) rfl) dL_law_1049 rfl (fun v0 hv0 => ?_)
  cases hv0
  refine z_lload (pc' := 1052) C 0 dL_law_1050 rfl rfl ?_
  refine z_lcmp_eq (pc' := 1056) (pc1 := 1053) C 1058 (if_pos hv : (if _ = _ then some () else (none : Option Unit)) = some ()) dL_law_1052 rfl dL_law_1053 rfl rfl (fun _ _ => ?_) (fun q _ => absurd hv q)
  refine z_goto C 2707 dL_law_1058 rfl ?_
  refine z_pick (lv' := lw_lv w b i) [2, 3, 4, 5, 6] rfl ?_
  exact kk _ _ _ (by dsimp only [zrx, zr]; omega) (by dsimp only [zrx, zr]; omega)
theorem lc_unpaid_x1 (hN : 396 ≤ N) (hC : lw_C X w b L xs) (hs : lw_sc L xs i q) (hk : k + 12 ≤ 601024) (hn : n + 1000 ≤ 7293033) {b9 : Int64} (hf : f_X8_unpaid σ (q 1) = some (.inl "java/lang/IndexOutOfBoundsException")) (hg : g_X9_unpaid ρ (q 1) = some (b9, ρ')) (ht : md_thrown ρ' = 1) (kk : lw_N X w Q b i N h0 k n σ ρ') : zZ X w Q k n false N (gW w h0 σ ρ u) 1006 (lw_lv w b i) [] := by
  obtain ⟨C, hX, hb, hw⟩ := hC
  refine z_aload_n (pc' := 1007) C 3 dL_law_1006 rfl rfl rfl ?_
  refine z_aload_n (pc' := 1008) C 4 dL_law_1007 rfl rfl rfl ?_
  refine z_iload (pc' := 1010) C 0 dL_law_1008 rfl rfl ?_
  refine z_iconst (pc' := 1011) C dL_law_1010 zk_iconst_1 rfl ?_
  refine z_iadd (pc' := 1012) C dL_law_1011 rfl ?_
  refine z_sld (pc' := 1013) C hX hb hw (v := q 1) (hs 1 (by decide)) dL_law_1012 rfl ?_
  refine z_aload_n (pc' := 1014) C 1 dL_law_1013 rfl rfl rfl ?_
  refine z_callSW (pc' := 1017) (m := 3) (st := []) (h' := gW w h0 σ ρ u) C (c_L_unpaid_1 (a := 0) (c0 := 395) (N := N) (by omega) (by omega) (zc_w (a := 389) (o := 6) (by omega) rfl) hf) zw_831 zw_0 (by decide +kernel) zw_829 zw_830 rfl rfl rfl rfl (room_ok hk hn (by dsimp only [zrx, zr]; omega) (by dsimp only [zrx, zr]; omega)) dL_law_1014 rfl ?_
  refine z_istore (pc' := 1019) C _ dL_law_1017 rfl rfl rfl ?_
  refine z_aload_n (pc' := 1020) C 3 dL_law_1019 rfl rfl rfl ?_
  refine z_aload_n (pc' := 1021) C 5 dL_law_1020 rfl rfl rfl ?_
  refine z_iload (pc' := 1023) C 1 dL_law_1021 rfl rfl ?_
  refine z_iconst (pc' := 1024) C dL_law_1023 zk_iconst_1 rfl ?_
  refine z_iadd (pc' := 1025) C dL_law_1024 rfl ?_
  refine z_sld (pc' := 1026) C hX hb hw (v := q 1) (hs 1 (by decide)) dL_law_1025 rfl ?_
  refine z_callV (pc' := 1029) (st := []) (h' := gW w h0 σ ρ' u) C (d_X9_unpaid hN  hg) zy_X9_unpaid zw_1497 zw_1498 zw_1499 (ci := 9) rfl (gW_c (k := 0) (by omega) rfl) rfl rfl rfl rfl (room_ok hk hn (by dsimp only [zrx, zr]; omega) (by dsimp only [zrx, zr]; omega)) dL_law_1026 rfl ?_
  refine z_lstore (pc' := 1031) C _ dL_law_1029 rfl rfl rfl ?_
  refine z_aload_n (pc' := 1032) C 4 dL_law_1031 rfl rfl rfl ?_
  refine z_callV (pc' := 1035) (st := []) (h' := gW w h0 σ ρ' u) C (d_X9_thrown hN (v := md_thrown ρ') rfl) zy_X9_thrown zw_1236 zw_1237 zw_1238 (ci := 9) rfl (gW_c (k := 0) (by omega) rfl) rfl rfl rfl rfl (room_ok hk hn (by dsimp only [zrx, zr]; omega) (by dsimp only [zrx, zr]; omega)) dL_law_1032 rfl ?_
  refine z_iload (pc' := 1037) C 1 dL_law_1035 rfl rfl ?_
  refine z_icmp_eq (pc' := 1040) C 1042 (if_pos ht : (if _ = _ then some () else (none : Option Unit)) = some ()) dL_law_1037 rfl rfl (fun _ _ => ?_) (fun q _ => absurd ht q)
  refine z_iload (pc' := 1044) C 1 dL_law_1042 rfl rfl ?_
  refine z_if_ne (pc' := 1047) C 1058 (if_neg (by decide) : (if (1 : Int32) = 0 then (none : Option Unit) else some ()) = some ()) dL_law_1044 rfl rfl (fun _ _ => ?_) (fun q _ => absurd q (by decide))
  refine z_goto C 2707 dL_law_1058 rfl ?_
  refine z_pick (lv' := lw_lv w b i) [2, 3, 4, 5, 6] rfl ?_
  exact kk _ _ _ (by dsimp only [zrx, zr]; omega) (by dsimp only [zrx, zr]; omega)
theorem lc_overdue (hN : 396 ≤ N) (hC : lw_C X w b L xs) (hs : lw_sc L xs i q) (hk : k + 12 ≤ 601024) (hn : n + 1000 ≤ 7293033) {v : Int64} {b9 : Int64} (hf : f_X8_overdue σ (q 1) = some (.inr v)) (hg : g_X9_overdue ρ (q 1) = some (b9, ρ')) (ht : md_thrown ρ' = 0) (hv : v = b9) (kk : lw_N X w Q b i N h0 k n σ ρ') : zZ X w Q k n false N (gW w h0 σ ρ u) 1061 (lw_lv w b i) [] := by
  obtain ⟨C, hX, hb, hw⟩ := hC
  refine z_aload_n (pc' := 1062) C 3 dL_law_1061 rfl rfl rfl ?_
  refine z_aload_n (pc' := 1063) C 4 dL_law_1062 rfl rfl rfl ?_
  refine z_iload (pc' := 1065) C 0 dL_law_1063 rfl rfl ?_
  refine z_iconst (pc' := 1066) C dL_law_1065 zk_iconst_1 rfl ?_
  refine z_iadd (pc' := 1067) C dL_law_1066 rfl ?_
  refine z_sld (pc' := 1068) C hX hb hw (v := q 1) (hs 1 (by decide)) dL_law_1067 rfl ?_
  refine z_aload_n (pc' := 1069) C 1 dL_law_1068 rfl rfl rfl ?_
  refine z_callSW (pc' := 1072) (m := 3) (st := []) (h' := gW w h0 σ ρ (vp_updL u 0 (v))) C (zMw_eq gW_o (c_L_overdue (a := 0) (c0 := 395) (N := N) (by omega) (by omega) (zc_w (a := 389) (o := 6) (by omega) rfl) hf)) zw_839 zw_0 (by decide +kernel) zw_837 zw_838 rfl rfl rfl rfl (room_ok hk hn (by dsimp only [zrx, zr]; omega) (by dsimp only [zrx, zr]; omega)) dL_law_1069 rfl ?_
  refine z_istore (pc' := 1074) C _ dL_law_1072 rfl rfl rfl ?_
  refine z_aload_n (pc' := 1075) C 3 dL_law_1074 rfl rfl rfl ?_
  refine z_aload_n (pc' := 1076) C 5 dL_law_1075 rfl rfl rfl ?_
  refine z_iload (pc' := 1078) C 1 dL_law_1076 rfl rfl ?_
  refine z_iconst (pc' := 1079) C dL_law_1078 zk_iconst_1 rfl ?_
  refine z_iadd (pc' := 1080) C dL_law_1079 rfl ?_
  refine z_sld (pc' := 1081) C hX hb hw (v := q 1) (hs 1 (by decide)) dL_law_1080 rfl ?_
  refine z_callV (pc' := 1084) (st := []) (h' := gW w h0 σ ρ' (vp_updL u 0 (v))) C (d_X9_overdue hN  hg) zy_X9_overdue zw_1513 zw_1514 zw_1515 (ci := 9) rfl (gW_c (k := 0) (by omega) rfl) rfl rfl rfl rfl (room_ok hk hn (by dsimp only [zrx, zr]; omega) (by dsimp only [zrx, zr]; omega)) dL_law_1081 rfl ?_
  refine z_lstore (pc' := 1086) C _ dL_law_1084 rfl rfl rfl ?_
  refine z_aload_n (pc' := 1087) C 4 dL_law_1086 rfl rfl rfl ?_
  refine z_callV (pc' := 1090) (st := []) (h' := gW w h0 σ ρ' (vp_updL u 0 (v))) C (d_X9_thrown hN (v := md_thrown ρ') rfl) zy_X9_thrown zw_1236 zw_1237 zw_1238 (ci := 9) rfl (gW_c (k := 0) (by omega) rfl) rfl rfl rfl rfl (room_ok hk hn (by dsimp only [zrx, zr]; omega) (by dsimp only [zrx, zr]; omega)) dL_law_1087 rfl ?_
  refine z_iload (pc' := 1092) C 1 dL_law_1090 rfl rfl ?_
  refine z_icmp_eq (pc' := 1095) C 1097 (if_pos ht : (if _ = _ then some () else (none : Option Unit)) = some ()) dL_law_1092 rfl rfl (fun _ _ => ?_) (fun q _ => absurd ht q)
  refine z_iload (pc' := 1099) C 1 dL_law_1097 rfl rfl ?_
  refine z_if_ne (pc' := 1102) C 1113 (if_pos rfl : (if (0 : Int32) = 0 then some () else (none : Option Unit)) = some ()) dL_law_1099 rfl rfl (fun q _ => absurd rfl q) (fun _ _ => ?_)
  refine z_aload_n (pc' := 1103) C 3 dL_law_1102 rfl rfl rfl ?_
  refine z_iconst (pc' := 1104) C dL_law_1103 zk_iconst_0 rfl ?_
  refine z_lald (pc' := 1105) C (K := fun v => some v) rfl (gW_c (k := 6) (by omega) rfl) dL_law_1104 rfl (fun v0 hv0 => ?_)
  cases hv0
  refine z_lload (pc' := 1107) C 0 dL_law_1105 rfl rfl ?_
  refine z_lcmp_eq (pc' := 1111) (pc1 := 1108) C 1113 (if_pos hv : (if _ = _ then some () else (none : Option Unit)) = some ()) dL_law_1107 rfl dL_law_1108 rfl rfl (fun _ _ => ?_) (fun q _ => absurd hv q)
  refine z_goto C 2707 dL_law_1113 rfl ?_
  refine z_pick (lv' := lw_lv w b i) [2, 3, 4, 5, 6] rfl ?_
  exact kk _ _ _ (by dsimp only [zrx, zr]; omega) (by dsimp only [zrx, zr]; omega)
theorem lc_overdue_x1 (hN : 396 ≤ N) (hC : lw_C X w b L xs) (hs : lw_sc L xs i q) (hk : k + 12 ≤ 601024) (hn : n + 1000 ≤ 7293033) {b9 : Int64} (hf : f_X8_overdue σ (q 1) = some (.inl "java/lang/IndexOutOfBoundsException")) (hg : g_X9_overdue ρ (q 1) = some (b9, ρ')) (ht : md_thrown ρ' = 1) (kk : lw_N X w Q b i N h0 k n σ ρ') : zZ X w Q k n false N (gW w h0 σ ρ u) 1061 (lw_lv w b i) [] := by
  obtain ⟨C, hX, hb, hw⟩ := hC
  refine z_aload_n (pc' := 1062) C 3 dL_law_1061 rfl rfl rfl ?_
  refine z_aload_n (pc' := 1063) C 4 dL_law_1062 rfl rfl rfl ?_
  refine z_iload (pc' := 1065) C 0 dL_law_1063 rfl rfl ?_
  refine z_iconst (pc' := 1066) C dL_law_1065 zk_iconst_1 rfl ?_
  refine z_iadd (pc' := 1067) C dL_law_1066 rfl ?_
  refine z_sld (pc' := 1068) C hX hb hw (v := q 1) (hs 1 (by decide)) dL_law_1067 rfl ?_
  refine z_aload_n (pc' := 1069) C 1 dL_law_1068 rfl rfl rfl ?_
  refine z_callSW (pc' := 1072) (m := 3) (st := []) (h' := gW w h0 σ ρ u) C (c_L_overdue_1 (a := 0) (c0 := 395) (N := N) (by omega) (by omega) (zc_w (a := 389) (o := 6) (by omega) rfl) hf) zw_839 zw_0 (by decide +kernel) zw_837 zw_838 rfl rfl rfl rfl (room_ok hk hn (by dsimp only [zrx, zr]; omega) (by dsimp only [zrx, zr]; omega)) dL_law_1069 rfl ?_
  refine z_istore (pc' := 1074) C _ dL_law_1072 rfl rfl rfl ?_
  refine z_aload_n (pc' := 1075) C 3 dL_law_1074 rfl rfl rfl ?_
  refine z_aload_n (pc' := 1076) C 5 dL_law_1075 rfl rfl rfl ?_
  refine z_iload (pc' := 1078) C 1 dL_law_1076 rfl rfl ?_
  refine z_iconst (pc' := 1079) C dL_law_1078 zk_iconst_1 rfl ?_
  refine z_iadd (pc' := 1080) C dL_law_1079 rfl ?_
  refine z_sld (pc' := 1081) C hX hb hw (v := q 1) (hs 1 (by decide)) dL_law_1080 rfl ?_
  refine z_callV (pc' := 1084) (st := []) (h' := gW w h0 σ ρ' u) C (d_X9_overdue hN  hg) zy_X9_overdue zw_1513 zw_1514 zw_1515 (ci := 9) rfl (gW_c (k := 0) (by omega) rfl) rfl rfl rfl rfl (room_ok hk hn (by dsimp only [zrx, zr]; omega) (by dsimp only [zrx, zr]; omega)) dL_law_1081 rfl ?_
  refine z_lstore (pc' := 1086) C _ dL_law_1084 rfl rfl rfl ?_
  refine z_aload_n (pc' := 1087) C 4 dL_law_1086 rfl rfl rfl ?_
  refine z_callV (pc' := 1090) (st := []) (h' := gW w h0 σ ρ' u) C (d_X9_thrown hN (v := md_thrown ρ') rfl) zy_X9_thrown zw_1236 zw_1237 zw_1238 (ci := 9) rfl (gW_c (k := 0) (by omega) rfl) rfl rfl rfl rfl (room_ok hk hn (by dsimp only [zrx, zr]; omega) (by dsimp only [zrx, zr]; omega)) dL_law_1087 rfl ?_
  refine z_iload (pc' := 1092) C 1 dL_law_1090 rfl rfl ?_
  refine z_icmp_eq (pc' := 1095) C 1097 (if_pos ht : (if _ = _ then some () else (none : Option Unit)) = some ()) dL_law_1092 rfl rfl (fun _ _ => ?_) (fun q _ => absurd ht q)
  refine z_iload (pc' := 1099) C 1 dL_law_1097 rfl rfl ?_
  refine z_if_ne (pc' := 1102) C 1113 (if_neg (by decide) : (if (1 : Int32) = 0 then (none : Option Unit) else some ()) = some ()) dL_law_1099 rfl rfl (fun _ _ => ?_) (fun q _ => absurd q (by decide))
  refine z_goto C 2707 dL_law_1113 rfl ?_
  refine z_pick (lv' := lw_lv w b i) [2, 3, 4, 5, 6] rfl ?_
  exact kk _ _ _ (by dsimp only [zrx, zr]; omega) (by dsimp only [zrx, zr]; omega)
theorem lc_stage (hN : 396 ≤ N) (hC : lw_C X w b L xs) (hs : lw_sc L xs i q) (hk : k + 12 ≤ 601024) (hn : n + 1000 ≤ 7293033) {v : Int32} {b9 : Int32} (hf : f_X8_stage σ (q 1) = some (.inr v)) (hg : g_X9_stage ρ (q 1) = some (b9, ρ')) (ht : md_thrown ρ' = 0) (hv : v.toInt64 = b9.toInt64) (kk : lw_N X w Q b i N h0 k n σ ρ') : zZ X w Q k n false N (gW w h0 σ ρ u) 1116 (lw_lv w b i) [] := by
  obtain ⟨C, hX, hb, hw⟩ := hC
  refine z_aload_n (pc' := 1117) C 3 dL_law_1116 rfl rfl rfl ?_
  refine z_aload_n (pc' := 1118) C 4 dL_law_1117 rfl rfl rfl ?_
  refine z_iload (pc' := 1120) C 0 dL_law_1118 rfl rfl ?_
  refine z_iconst (pc' := 1121) C dL_law_1120 zk_iconst_1 rfl ?_
  refine z_iadd (pc' := 1122) C dL_law_1121 rfl ?_
  refine z_sld (pc' := 1123) C hX hb hw (v := q 1) (hs 1 (by decide)) dL_law_1122 rfl ?_
  refine z_aload_n (pc' := 1124) C 1 dL_law_1123 rfl rfl rfl ?_
  refine z_callSW (pc' := 1127) (m := 3) (st := []) (h' := gW w h0 σ ρ (vp_updL u 0 (v.toInt64))) C (zMw_eq gW_o (c_L_stage (a := 0) (c0 := 395) (N := N) (by omega) (by omega) (zc_w (a := 389) (o := 6) (by omega) rfl) hf)) zw_854 zw_0 (by decide +kernel) zw_852 zw_853 rfl rfl rfl rfl (room_ok hk hn (by dsimp only [zrx, zr]; omega) (by dsimp only [zrx, zr]; omega)) dL_law_1124 rfl ?_
  refine z_istore (pc' := 1129) C _ dL_law_1127 rfl rfl rfl ?_
  refine z_aload_n (pc' := 1130) C 3 dL_law_1129 rfl rfl rfl ?_
  refine z_aload_n (pc' := 1131) C 5 dL_law_1130 rfl rfl rfl ?_
  refine z_iload (pc' := 1133) C 1 dL_law_1131 rfl rfl ?_
  refine z_iconst (pc' := 1134) C dL_law_1133 zk_iconst_1 rfl ?_
  refine z_iadd (pc' := 1135) C dL_law_1134 rfl ?_
  refine z_sld (pc' := 1136) C hX hb hw (v := q 1) (hs 1 (by decide)) dL_law_1135 rfl ?_
  refine z_callV (pc' := 1139) (st := []) (h' := gW w h0 σ ρ' (vp_updL u 0 (v.toInt64))) C (d_X9_stage hN  hg) zy_X9_stage zw_1474 zw_1475 zw_1476 (ci := 9) rfl (gW_c (k := 0) (by omega) rfl) rfl rfl rfl rfl (room_ok hk hn (by dsimp only [zrx, zr]; omega) (by dsimp only [zrx, zr]; omega)) dL_law_1136 rfl ?_
  refine z_istore (pc' := 1141) C _ dL_law_1139 rfl rfl rfl ?_
  refine z_aload_n (pc' := 1142) C 4 dL_law_1141 rfl rfl rfl ?_
  refine z_callV (pc' := 1145) (st := []) (h' := gW w h0 σ ρ' (vp_updL u 0 (v.toInt64))) C (d_X9_thrown hN (v := md_thrown ρ') rfl) zy_X9_thrown zw_1236 zw_1237 zw_1238 (ci := 9) rfl (gW_c (k := 0) (by omega) rfl) rfl rfl rfl rfl (room_ok hk hn (by dsimp only [zrx, zr]; omega) (by dsimp only [zrx, zr]; omega)) dL_law_1142 rfl ?_
  refine z_iload (pc' := 1147) C 1 dL_law_1145 rfl rfl ?_
  refine z_icmp_eq (pc' := 1150) C 1152 (if_pos ht : (if _ = _ then some () else (none : Option Unit)) = some ()) dL_law_1147 rfl rfl (fun _ _ => ?_) (fun q _ => absurd ht q)
  refine z_iload (pc' := 1154) C 1 dL_law_1152 rfl rfl ?_
  refine z_if_ne (pc' := 1157) C 1169 (if_pos rfl : (if (0 : Int32) = 0 then some () else (none : Option Unit)) = some ()) dL_law_1154 rfl rfl (fun q _ => absurd rfl q) (fun _ _ => ?_)
  refine z_aload_n (pc' := 1158) C 3 dL_law_1157 rfl rfl rfl ?_
  refine z_iconst (pc' := 1159) C dL_law_1158 zk_iconst_0 rfl ?_
  refine z_lald (pc' := 1160) C (K := fun v => some v) rfl (gW_c (k := 6) (by omega) rfl) dL_law_1159 rfl (fun v0 hv0 => ?_)
  cases hv0
  refine z_iload (pc' := 1162) C 0 dL_law_1160 rfl rfl ?_
  refine z_i2l (pc' := 1163) C dL_law_1162 rfl ?_
  refine z_lcmp_eq (pc' := 1167) (pc1 := 1164) C 1169 (if_pos hv : (if _ = _ then some () else (none : Option Unit)) = some ()) dL_law_1163 rfl dL_law_1164 rfl rfl (fun _ _ => ?_) (fun q _ => absurd hv q)
  refine z_goto C 2707 dL_law_1169 rfl ?_
  refine z_pick (lv' := lw_lv w b i) [2, 3, 4, 5, 6] rfl ?_
  exact kk _ _ _ (by dsimp only [zrx, zr]; omega) (by dsimp only [zrx, zr]; omega)
theorem lc_stage_x1 (hN : 396 ≤ N) (hC : lw_C X w b L xs) (hs : lw_sc L xs i q) (hk : k + 12 ≤ 601024) (hn : n + 1000 ≤ 7293033) {b9 : Int32} (hf : f_X8_stage σ (q 1) = some (.inl "java/lang/IndexOutOfBoundsException")) (hg : g_X9_stage ρ (q 1) = some (b9, ρ')) (ht : md_thrown ρ' = 1) (kk : lw_N X w Q b i N h0 k n σ ρ') : zZ X w Q k n false N (gW w h0 σ ρ u) 1116 (lw_lv w b i) [] := by
  obtain ⟨C, hX, hb, hw⟩ := hC
  refine z_aload_n (pc' := 1117) C 3 dL_law_1116 rfl rfl rfl ?_
  refine z_aload_n (pc' := 1118) C 4 dL_law_1117 rfl rfl rfl ?_
  refine z_iload (pc' := 1120) C 0 dL_law_1118 rfl rfl ?_
  refine z_iconst (pc' := 1121) C dL_law_1120 zk_iconst_1 rfl ?_
  refine z_iadd (pc' := 1122) C dL_law_1121 rfl ?_
  refine z_sld (pc' := 1123) C hX hb hw (v := q 1) (hs 1 (by decide)) dL_law_1122 rfl ?_
  refine z_aload_n (pc' := 1124) C 1 dL_law_1123 rfl rfl rfl ?_
  refine z_callSW (pc' := 1127) (m := 3) (st := []) (h' := gW w h0 σ ρ u) C (c_L_stage_1 (a := 0) (c0 := 395) (N := N) (by omega) (by omega) (zc_w (a := 389) (o := 6) (by omega) rfl) hf) zw_854 zw_0 (by decide +kernel) zw_852 zw_853 rfl rfl rfl rfl (room_ok hk hn (by dsimp only [zrx, zr]; omega) (by dsimp only [zrx, zr]; omega)) dL_law_1124 rfl ?_
  refine z_istore (pc' := 1129) C _ dL_law_1127 rfl rfl rfl ?_
  refine z_aload_n (pc' := 1130) C 3 dL_law_1129 rfl rfl rfl ?_
  refine z_aload_n (pc' := 1131) C 5 dL_law_1130 rfl rfl rfl ?_
  refine z_iload (pc' := 1133) C 1 dL_law_1131 rfl rfl ?_
  refine z_iconst (pc' := 1134) C dL_law_1133 zk_iconst_1 rfl ?_
  refine z_iadd (pc' := 1135) C dL_law_1134 rfl ?_
  refine z_sld (pc' := 1136) C hX hb hw (v := q 1) (hs 1 (by decide)) dL_law_1135 rfl ?_
  refine z_callV (pc' := 1139) (st := []) (h' := gW w h0 σ ρ' u) C (d_X9_stage hN  hg) zy_X9_stage zw_1474 zw_1475 zw_1476 (ci := 9) rfl (gW_c (k := 0) (by omega) rfl) rfl rfl rfl rfl (room_ok hk hn (by dsimp only [zrx, zr]; omega) (by dsimp only [zrx, zr]; omega)) dL_law_1136 rfl ?_
  refine z_istore (pc' := 1141) C _ dL_law_1139 rfl rfl rfl ?_
  refine z_aload_n (pc' := 1142) C 4 dL_law_1141 rfl rfl rfl ?_
  refine z_callV (pc' := 1145) (st := []) (h' := gW w h0 σ ρ' u) C (d_X9_thrown hN (v := md_thrown ρ') rfl) zy_X9_thrown zw_1236 zw_1237 zw_1238 (ci := 9) rfl (gW_c (k := 0) (by omega) rfl) rfl rfl rfl rfl (room_ok hk hn (by dsimp only [zrx, zr]; omega) (by dsimp only [zrx, zr]; omega)) dL_law_1142 rfl ?_
  refine z_iload (pc' := 1147) C 1 dL_law_1145 rfl rfl ?_
  refine z_icmp_eq (pc' := 1150) C 1152 (if_pos ht : (if _ = _ then some () else (none : Option Unit)) = some ()) dL_law_1147 rfl rfl (fun _ _ => ?_) (fun q _ => absurd ht q)
  refine z_iload (pc' := 1154) C 1 dL_law_1152 rfl rfl ?_
  refine z_if_ne (pc' := 1157) C 1169 (if_neg (by decide) : (if (1 : Int32) = 0 then (none : Option Unit) else some ()) = some ()) dL_law_1154 rfl rfl (fun _ _ => ?_) (fun q _ => absurd q (by decide))
  refine z_goto C 2707 dL_law_1169 rfl ?_
  refine z_pick (lv' := lw_lv w b i) [2, 3, 4, 5, 6] rfl ?_
  exact kk _ _ _ (by dsimp only [zrx, zr]; omega) (by dsimp only [zrx, zr]; omega)
theorem lc_margin (hN : 396 ≤ N) (hC : lw_C X w b L xs) (hs : lw_sc L xs i q) (hk : k + 12 ≤ 601024) (hn : n + 1000 ≤ 7293033) (hG : PgW w N 0 (zu h0 389 (mL w ρ u)) σ) {v : Int64} {b9 : Int64} (hf : f_X8_margin σ (q 1) = some (.inr (v, σ'))) (hg : g_X9_margin ρ (q 1) = some (b9, ρ')) (ht : md_thrown ρ' = 0) (hv : v = b9) (kk : lw_N X w Q b i N h0 k n σ' ρ') : zZ X w Q k n false N (gW w h0 σ ρ u) 1172 (lw_lv w b i) [] := by
  obtain ⟨C, hX, hb, hw⟩ := hC
  refine z_aload_n (pc' := 1173) C 3 dL_law_1172 rfl rfl rfl ?_
  refine z_aload_n (pc' := 1174) C 4 dL_law_1173 rfl rfl rfl ?_
  refine z_iload (pc' := 1176) C 0 dL_law_1174 rfl rfl ?_
  refine z_iconst (pc' := 1177) C dL_law_1176 zk_iconst_1 rfl ?_
  refine z_iadd (pc' := 1178) C dL_law_1177 rfl ?_
  refine z_sld (pc' := 1179) C hX hb hw (v := q 1) (hs 1 (by decide)) dL_law_1178 rfl ?_
  refine z_aload_n (pc' := 1180) C 1 dL_law_1179 rfl rfl rfl ?_
  refine z_callSW (pc' := 1183) (m := 3) (st := []) (h' := gW w h0 σ' ρ (vp_updL u 0 (v))) C (zMw_eq gW_o (c_L_margin (a := 0) (c0 := 395) (N := N) (by omega) (by omega) (zc_w (a := 389) (o := 6) (by omega) rfl) hG hf)) zw_861 zw_0 (by decide +kernel) zw_859 zw_860 rfl rfl rfl rfl (room_ok hk hn (by dsimp only [zrx, zr]; omega) (by dsimp only [zrx, zr]; omega)) dL_law_1180 rfl ?_
  refine z_istore (pc' := 1185) C _ dL_law_1183 rfl rfl rfl ?_
  refine z_aload_n (pc' := 1186) C 3 dL_law_1185 rfl rfl rfl ?_
  refine z_aload_n (pc' := 1187) C 5 dL_law_1186 rfl rfl rfl ?_
  refine z_iload (pc' := 1189) C 1 dL_law_1187 rfl rfl ?_
  refine z_iconst (pc' := 1190) C dL_law_1189 zk_iconst_1 rfl ?_
  refine z_iadd (pc' := 1191) C dL_law_1190 rfl ?_
  refine z_sld (pc' := 1192) C hX hb hw (v := q 1) (hs 1 (by decide)) dL_law_1191 rfl ?_
  refine z_callV (pc' := 1195) (st := []) (h' := gW w h0 σ' ρ' (vp_updL u 0 (v))) C (d_X9_margin hN  hg) zy_X9_margin zw_1478 zw_1479 zw_1480 (ci := 9) rfl (gW_c (k := 0) (by omega) rfl) rfl rfl rfl rfl (room_ok hk hn (by dsimp only [zrx, zr]; omega) (by dsimp only [zrx, zr]; omega)) dL_law_1192 rfl ?_
  refine z_lstore (pc' := 1197) C _ dL_law_1195 rfl rfl rfl ?_
  refine z_aload_n (pc' := 1198) C 4 dL_law_1197 rfl rfl rfl ?_
  refine z_callV (pc' := 1201) (st := []) (h' := gW w h0 σ' ρ' (vp_updL u 0 (v))) C (d_X9_thrown hN (v := md_thrown ρ') rfl) zy_X9_thrown zw_1236 zw_1237 zw_1238 (ci := 9) rfl (gW_c (k := 0) (by omega) rfl) rfl rfl rfl rfl (room_ok hk hn (by dsimp only [zrx, zr]; omega) (by dsimp only [zrx, zr]; omega)) dL_law_1198 rfl ?_
  refine z_iload (pc' := 1203) C 1 dL_law_1201 rfl rfl ?_
  refine z_icmp_eq (pc' := 1206) C 1208 (if_pos ht : (if _ = _ then some () else (none : Option Unit)) = some ()) dL_law_1203 rfl rfl (fun _ _ => ?_) (fun q _ => absurd ht q)
  refine z_iload (pc' := 1210) C 1 dL_law_1208 rfl rfl ?_
  refine z_if_ne (pc' := 1213) C 1224 (if_pos rfl : (if (0 : Int32) = 0 then some () else (none : Option Unit)) = some ()) dL_law_1210 rfl rfl (fun q _ => absurd rfl q) (fun _ _ => ?_)
  refine z_aload_n (pc' := 1214) C 3 dL_law_1213 rfl rfl rfl ?_
  refine z_iconst (pc' := 1215) C dL_law_1214 zk_iconst_0 rfl ?_
  refine z_lald (pc' := 1216) C (K := fun v => some v) rfl (gW_c (k := 6) (by omega) rfl) dL_law_1215 rfl (fun v0 hv0 => ?_)
  cases hv0
  refine z_lload (pc' := 1218) C 0 dL_law_1216 rfl rfl ?_
  refine z_lcmp_eq (pc' := 1222) (pc1 := 1219) C 1224 (if_pos hv : (if _ = _ then some () else (none : Option Unit)) = some ()) dL_law_1218 rfl dL_law_1219 rfl rfl (fun _ _ => ?_) (fun q _ => absurd hv q)
  refine z_goto C 2707 dL_law_1224 rfl ?_
  refine z_pick (lv' := lw_lv w b i) [2, 3, 4, 5, 6] rfl ?_
  exact kk _ _ _ (by dsimp only [zrx, zr]; omega) (by dsimp only [zrx, zr]; omega)
theorem lc_margin_x1 (hN : 396 ≤ N) (hC : lw_C X w b L xs) (hs : lw_sc L xs i q) (hk : k + 12 ≤ 601024) (hn : n + 1000 ≤ 7293033) (hG : PgW w N 0 (zu h0 389 (mL w ρ u)) σ) {b9 : Int64} (hf : f_X8_margin σ (q 1) = some (.inl ("java/lang/IndexOutOfBoundsException", σ'))) (hg : g_X9_margin ρ (q 1) = some (b9, ρ')) (ht : md_thrown ρ' = 1) (kk : lw_N X w Q b i N h0 k n σ' ρ') : zZ X w Q k n false N (gW w h0 σ ρ u) 1172 (lw_lv w b i) [] := by
  obtain ⟨C, hX, hb, hw⟩ := hC
  refine z_aload_n (pc' := 1173) C 3 dL_law_1172 rfl rfl rfl ?_
  refine z_aload_n (pc' := 1174) C 4 dL_law_1173 rfl rfl rfl ?_
  refine z_iload (pc' := 1176) C 0 dL_law_1174 rfl rfl ?_
  refine z_iconst (pc' := 1177) C dL_law_1176 zk_iconst_1 rfl ?_
  refine z_iadd (pc' := 1178) C dL_law_1177 rfl ?_
  refine z_sld (pc' := 1179) C hX hb hw (v := q 1) (hs 1 (by decide)) dL_law_1178 rfl ?_
  refine z_aload_n (pc' := 1180) C 1 dL_law_1179 rfl rfl rfl ?_
  refine z_callSW (pc' := 1183) (m := 3) (st := []) (h' := gW w h0 σ' ρ u) C (c_L_margin_1 (a := 0) (c0 := 395) (N := N) (by omega) (by omega) (zc_w (a := 389) (o := 6) (by omega) rfl) hG hf) zw_861 zw_0 (by decide +kernel) zw_859 zw_860 rfl rfl rfl rfl (room_ok hk hn (by dsimp only [zrx, zr]; omega) (by dsimp only [zrx, zr]; omega)) dL_law_1180 rfl ?_
  refine z_istore (pc' := 1185) C _ dL_law_1183 rfl rfl rfl ?_
  refine z_aload_n (pc' := 1186) C 3 dL_law_1185 rfl rfl rfl ?_
  refine z_aload_n (pc' := 1187) C 5 dL_law_1186 rfl rfl rfl ?_
  refine z_iload (pc' := 1189) C 1 dL_law_1187 rfl rfl ?_
  refine z_iconst (pc' := 1190) C dL_law_1189 zk_iconst_1 rfl ?_
  refine z_iadd (pc' := 1191) C dL_law_1190 rfl ?_
  refine z_sld (pc' := 1192) C hX hb hw (v := q 1) (hs 1 (by decide)) dL_law_1191 rfl ?_
  refine z_callV (pc' := 1195) (st := []) (h' := gW w h0 σ' ρ' u) C (d_X9_margin hN  hg) zy_X9_margin zw_1478 zw_1479 zw_1480 (ci := 9) rfl (gW_c (k := 0) (by omega) rfl) rfl rfl rfl rfl (room_ok hk hn (by dsimp only [zrx, zr]; omega) (by dsimp only [zrx, zr]; omega)) dL_law_1192 rfl ?_
  refine z_lstore (pc' := 1197) C _ dL_law_1195 rfl rfl rfl ?_
  refine z_aload_n (pc' := 1198) C 4 dL_law_1197 rfl rfl rfl ?_
  refine z_callV (pc' := 1201) (st := []) (h' := gW w h0 σ' ρ' u) C (d_X9_thrown hN (v := md_thrown ρ') rfl) zy_X9_thrown zw_1236 zw_1237 zw_1238 (ci := 9) rfl (gW_c (k := 0) (by omega) rfl) rfl rfl rfl rfl (room_ok hk hn (by dsimp only [zrx, zr]; omega) (by dsimp only [zrx, zr]; omega)) dL_law_1198 rfl ?_
  refine z_iload (pc' := 1203) C 1 dL_law_1201 rfl rfl ?_
  refine z_icmp_eq (pc' := 1206) C 1208 (if_pos ht : (if _ = _ then some () else (none : Option Unit)) = some ()) dL_law_1203 rfl rfl (fun _ _ => ?_) (fun q _ => absurd ht q)
  refine z_iload (pc' := 1210) C 1 dL_law_1208 rfl rfl ?_
  refine z_if_ne (pc' := 1213) C 1224 (if_neg (by decide) : (if (1 : Int32) = 0 then (none : Option Unit) else some ()) = some ()) dL_law_1210 rfl rfl (fun _ _ => ?_) (fun q _ => absurd q (by decide))
  refine z_goto C 2707 dL_law_1224 rfl ?_
  refine z_pick (lv' := lw_lv w b i) [2, 3, 4, 5, 6] rfl ?_
  exact kk _ _ _ (by dsimp only [zrx, zr]; omega) (by dsimp only [zrx, zr]; omega)
theorem lc_account (hN : 396 ≤ N) (hC : lw_C X w b L xs) (hs : lw_sc L xs i q) (hk : k + 12 ≤ 601024) (hn : n + 1000 ≤ 7293033) {v : Int64} {b9 : Int64} (hf : f_X8_account σ (q 1) = some (.inr v)) (hg : g_X9_account ρ (q 1) = some (b9, ρ')) (ht : md_thrown ρ' = 0) (hv : v = b9) (kk : lw_N X w Q b i N h0 k n σ ρ') : zZ X w Q k n false N (gW w h0 σ ρ u) 1227 (lw_lv w b i) [] := by
  obtain ⟨C, hX, hb, hw⟩ := hC
  refine z_aload_n (pc' := 1228) C 3 dL_law_1227 rfl rfl rfl ?_
  refine z_aload_n (pc' := 1229) C 4 dL_law_1228 rfl rfl rfl ?_
  refine z_iload (pc' := 1231) C 0 dL_law_1229 rfl rfl ?_
  refine z_iconst (pc' := 1232) C dL_law_1231 zk_iconst_1 rfl ?_
  refine z_iadd (pc' := 1233) C dL_law_1232 rfl ?_
  refine z_sld (pc' := 1234) C hX hb hw (v := q 1) (hs 1 (by decide)) dL_law_1233 rfl ?_
  refine z_aload_n (pc' := 1235) C 1 dL_law_1234 rfl rfl rfl ?_
  refine z_callSW (pc' := 1238) (m := 3) (st := []) (h' := gW w h0 σ ρ (vp_updL u 0 (v))) C (zMw_eq gW_o (c_L_account (a := 0) (c0 := 395) (N := N) (by omega) (by omega) (zc_w (a := 389) (o := 6) (by omega) rfl) hf)) zw_873 zw_0 (by decide +kernel) zw_871 zw_872 rfl rfl rfl rfl (room_ok hk hn (by dsimp only [zrx, zr]; omega) (by dsimp only [zrx, zr]; omega)) dL_law_1235 rfl ?_
  refine z_istore (pc' := 1240) C _ dL_law_1238 rfl rfl rfl ?_
  refine z_aload_n (pc' := 1241) C 3 dL_law_1240 rfl rfl rfl ?_
  refine z_aload_n (pc' := 1242) C 5 dL_law_1241 rfl rfl rfl ?_
  refine z_iload (pc' := 1244) C 1 dL_law_1242 rfl rfl ?_
  refine z_iconst (pc' := 1245) C dL_law_1244 zk_iconst_1 rfl ?_
  refine z_iadd (pc' := 1246) C dL_law_1245 rfl ?_
  refine z_sld (pc' := 1247) C hX hb hw (v := q 1) (hs 1 (by decide)) dL_law_1246 rfl ?_
  refine z_callV (pc' := 1250) (st := []) (h' := gW w h0 σ ρ' (vp_updL u 0 (v))) C (d_X9_account hN  hg) zy_X9_account zw_1482 zw_1483 zw_1484 (ci := 9) rfl (gW_c (k := 0) (by omega) rfl) rfl rfl rfl rfl (room_ok hk hn (by dsimp only [zrx, zr]; omega) (by dsimp only [zrx, zr]; omega)) dL_law_1247 rfl ?_
  refine z_lstore (pc' := 1252) C _ dL_law_1250 rfl rfl rfl ?_
  refine z_aload_n (pc' := 1253) C 4 dL_law_1252 rfl rfl rfl ?_
  refine z_callV (pc' := 1256) (st := []) (h' := gW w h0 σ ρ' (vp_updL u 0 (v))) C (d_X9_thrown hN (v := md_thrown ρ') rfl) zy_X9_thrown zw_1236 zw_1237 zw_1238 (ci := 9) rfl (gW_c (k := 0) (by omega) rfl) rfl rfl rfl rfl (room_ok hk hn (by dsimp only [zrx, zr]; omega) (by dsimp only [zrx, zr]; omega)) dL_law_1253 rfl ?_
  refine z_iload (pc' := 1258) C 1 dL_law_1256 rfl rfl ?_
  refine z_icmp_eq (pc' := 1261) C 1263 (if_pos ht : (if _ = _ then some () else (none : Option Unit)) = some ()) dL_law_1258 rfl rfl (fun _ _ => ?_) (fun q _ => absurd ht q)
  refine z_iload (pc' := 1265) C 1 dL_law_1263 rfl rfl ?_
  refine z_if_ne (pc' := 1268) C 1279 (if_pos rfl : (if (0 : Int32) = 0 then some () else (none : Option Unit)) = some ()) dL_law_1265 rfl rfl (fun q _ => absurd rfl q) (fun _ _ => ?_)
  refine z_aload_n (pc' := 1269) C 3 dL_law_1268 rfl rfl rfl ?_
  refine z_iconst (pc' := 1270) C dL_law_1269 zk_iconst_0 rfl ?_
  refine z_lald (pc' := 1271) C (K := fun v => some v) rfl (gW_c (k := 6) (by omega) rfl) dL_law_1270 rfl (fun v0 hv0 => ?_)
  cases hv0
  refine z_lload (pc' := 1273) C 0 dL_law_1271 rfl rfl ?_
  refine z_lcmp_eq (pc' := 1277) (pc1 := 1274) C 1279 (if_pos hv : (if _ = _ then some () else (none : Option Unit)) = some ()) dL_law_1273 rfl dL_law_1274 rfl rfl (fun _ _ => ?_) (fun q _ => absurd hv q)
  refine z_goto C 2707 dL_law_1279 rfl ?_
  refine z_pick (lv' := lw_lv w b i) [2, 3, 4, 5, 6] rfl ?_
  exact kk _ _ _ (by dsimp only [zrx, zr]; omega) (by dsimp only [zrx, zr]; omega)
theorem lc_account_x1 (hN : 396 ≤ N) (hC : lw_C X w b L xs) (hs : lw_sc L xs i q) (hk : k + 12 ≤ 601024) (hn : n + 1000 ≤ 7293033) {b9 : Int64} (hf : f_X8_account σ (q 1) = some (.inl "java/lang/IndexOutOfBoundsException")) (hg : g_X9_account ρ (q 1) = some (b9, ρ')) (ht : md_thrown ρ' = 1) (kk : lw_N X w Q b i N h0 k n σ ρ') : zZ X w Q k n false N (gW w h0 σ ρ u) 1227 (lw_lv w b i) [] := by
  obtain ⟨C, hX, hb, hw⟩ := hC
  refine z_aload_n (pc' := 1228) C 3 dL_law_1227 rfl rfl rfl ?_
  refine z_aload_n (pc' := 1229) C 4 dL_law_1228 rfl rfl rfl ?_
  refine z_iload (pc' := 1231) C 0 dL_law_1229 rfl rfl ?_
  refine z_iconst (pc' := 1232) C dL_law_1231 zk_iconst_1 rfl ?_
  refine z_iadd (pc' := 1233) C dL_law_1232 rfl ?_
  refine z_sld (pc' := 1234) C hX hb hw (v := q 1) (hs 1 (by decide)) dL_law_1233 rfl ?_
  refine z_aload_n (pc' := 1235) C 1 dL_law_1234 rfl rfl rfl ?_
  refine z_callSW (pc' := 1238) (m := 3) (st := []) (h' := gW w h0 σ ρ u) C (c_L_account_1 (a := 0) (c0 := 395) (N := N) (by omega) (by omega) (zc_w (a := 389) (o := 6) (by omega) rfl) hf) zw_873 zw_0 (by decide +kernel) zw_871 zw_872 rfl rfl rfl rfl (room_ok hk hn (by dsimp only [zrx, zr]; omega) (by dsimp only [zrx, zr]; omega)) dL_law_1235 rfl ?_
  refine z_istore (pc' := 1240) C _ dL_law_1238 rfl rfl rfl ?_
  refine z_aload_n (pc' := 1241) C 3 dL_law_1240 rfl rfl rfl ?_
  refine z_aload_n (pc' := 1242) C 5 dL_law_1241 rfl rfl rfl ?_
  refine z_iload (pc' := 1244) C 1 dL_law_1242 rfl rfl ?_
  refine z_iconst (pc' := 1245) C dL_law_1244 zk_iconst_1 rfl ?_
  refine z_iadd (pc' := 1246) C dL_law_1245 rfl ?_
  refine z_sld (pc' := 1247) C hX hb hw (v := q 1) (hs 1 (by decide)) dL_law_1246 rfl ?_
  refine z_callV (pc' := 1250) (st := []) (h' := gW w h0 σ ρ' u) C (d_X9_account hN  hg) zy_X9_account zw_1482 zw_1483 zw_1484 (ci := 9) rfl (gW_c (k := 0) (by omega) rfl) rfl rfl rfl rfl (room_ok hk hn (by dsimp only [zrx, zr]; omega) (by dsimp only [zrx, zr]; omega)) dL_law_1247 rfl ?_
  refine z_lstore (pc' := 1252) C _ dL_law_1250 rfl rfl rfl ?_
  refine z_aload_n (pc' := 1253) C 4 dL_law_1252 rfl rfl rfl ?_
  refine z_callV (pc' := 1256) (st := []) (h' := gW w h0 σ ρ' u) C (d_X9_thrown hN (v := md_thrown ρ') rfl) zy_X9_thrown zw_1236 zw_1237 zw_1238 (ci := 9) rfl (gW_c (k := 0) (by omega) rfl) rfl rfl rfl rfl (room_ok hk hn (by dsimp only [zrx, zr]; omega) (by dsimp only [zrx, zr]; omega)) dL_law_1253 rfl ?_
  refine z_iload (pc' := 1258) C 1 dL_law_1256 rfl rfl ?_
  refine z_icmp_eq (pc' := 1261) C 1263 (if_pos ht : (if _ = _ then some () else (none : Option Unit)) = some ()) dL_law_1258 rfl rfl (fun _ _ => ?_) (fun q _ => absurd ht q)
  refine z_iload (pc' := 1265) C 1 dL_law_1263 rfl rfl ?_
  refine z_if_ne (pc' := 1268) C 1279 (if_neg (by decide) : (if (1 : Int32) = 0 then (none : Option Unit) else some ()) = some ()) dL_law_1265 rfl rfl (fun _ _ => ?_) (fun q _ => absurd q (by decide))
  refine z_goto C 2707 dL_law_1279 rfl ?_
  refine z_pick (lv' := lw_lv w b i) [2, 3, 4, 5, 6] rfl ?_
  exact kk _ _ _ (by dsimp only [zrx, zr]; omega) (by dsimp only [zrx, zr]; omega)
theorem lc_certificateCount (hN : 396 ≤ N) (hC : lw_C X w b L xs) (hs : lw_sc L xs i q) (hk : k + 12 ≤ 601024) (hn : n + 1000 ≤ 7293033) {v b9 : Int32} (hf : f_X8_certificateCount σ  = some v) (hg : g_X9_certificateCount ρ  = some (b9, ρ')) (hv : v = b9) (kk : lw_N X w Q b i N h0 k n σ ρ') : zZ X w Q k n false N (gW w h0 σ ρ u) 1282 (lw_lv w b i) [] := by
  obtain ⟨C, hX, hb, hw⟩ := hC
  refine z_aload_n (pc' := 1283) C 3 dL_law_1282 rfl rfl rfl ?_
  refine z_callV (pc' := 1286) (st := []) (h' := gW w h0 σ ρ u) C (c_X8_certificateCount (a := 0) (N := N) (h := zu h0 389 (mL w ρ u)) (σ := σ) (by omega) hf) zy_X8_certificateCount zw_357 zw_358 zw_359 (ci := 8) rfl (lg_0 (a := 0) (by omega)) rfl rfl rfl rfl (room_ok hk hn (by dsimp only [zrx, zr]; omega) (by dsimp only [zrx, zr]; omega)) dL_law_1283 rfl ?_
  refine z_aload_n (pc' := 1287) C 2 dL_law_1286 rfl rfl rfl ?_
  refine z_callV (pc' := 1290) (st := [.int v]) (h' := gW w h0 σ ρ' u) C (d_X9_certificateCount hN  hg) zy_X9_certificateCount zw_1517 zw_1518 zw_1519 (ci := 9) rfl (gW_c (k := 0) (by omega) rfl) rfl rfl rfl rfl (room_ok hk hn (by dsimp only [zrx, zr]; omega) (by dsimp only [zrx, zr]; omega)) dL_law_1287 rfl ?_
  refine z_icmp_eq (pc' := 1293) C 2707 (if_pos hv : (if _ = _ then some () else (none : Option Unit)) = some ()) dL_law_1290 rfl rfl (fun _ _ => ?_) (fun q _ => absurd hv q)
  refine z_pick (lv' := lw_lv w b i) [0, 1, 2, 3, 4] rfl ?_
  exact kk _ _ _ (by dsimp only [zrx, zr]; omega) (by dsimp only [zrx, zr]; omega)
theorem lc_certificateContract (hN : 396 ≤ N) (hC : lw_C X w b L xs) (hs : lw_sc L xs i q) (hk : k + 12 ≤ 601024) (hn : n + 1000 ≤ 7293033) {v : Int32} {b9 : Int32} (hf : f_X8_certificateContract σ (q 1) = some (.inr v)) (hg : g_X9_certificateContract ρ (q 1) = some (b9, ρ')) (ht : md_thrown ρ' = 0) (hv : v.toInt64 = b9.toInt64) (kk : lw_N X w Q b i N h0 k n σ ρ') : zZ X w Q k n false N (gW w h0 σ ρ u) 1295 (lw_lv w b i) [] := by
  obtain ⟨C, hX, hb, hw⟩ := hC
  refine z_aload_n (pc' := 1296) C 3 dL_law_1295 rfl rfl rfl ?_
  refine z_aload_n (pc' := 1297) C 4 dL_law_1296 rfl rfl rfl ?_
  refine z_iload (pc' := 1299) C 0 dL_law_1297 rfl rfl ?_
  refine z_iconst (pc' := 1300) C dL_law_1299 zk_iconst_1 rfl ?_
  refine z_iadd (pc' := 1301) C dL_law_1300 rfl ?_
  refine z_sld (pc' := 1302) C hX hb hw (v := q 1) (hs 1 (by decide)) dL_law_1301 rfl ?_
  refine z_aload_n (pc' := 1303) C 1 dL_law_1302 rfl rfl rfl ?_
  refine z_callSW (pc' := 1306) (m := 3) (st := []) (h' := gW w h0 σ ρ (vp_updL u 0 (v.toInt64))) C (zMw_eq gW_o (c_L_certificateContract (a := 0) (c0 := 395) (N := N) (by omega) (by omega) (zc_w (a := 389) (o := 6) (by omega) rfl) hf)) zw_880 zw_0 (by decide +kernel) zw_878 zw_879 rfl rfl rfl rfl (room_ok hk hn (by dsimp only [zrx, zr]; omega) (by dsimp only [zrx, zr]; omega)) dL_law_1303 rfl ?_
  refine z_istore (pc' := 1308) C _ dL_law_1306 rfl rfl rfl ?_
  refine z_aload_n (pc' := 1309) C 3 dL_law_1308 rfl rfl rfl ?_
  refine z_aload_n (pc' := 1310) C 5 dL_law_1309 rfl rfl rfl ?_
  refine z_iload (pc' := 1312) C 1 dL_law_1310 rfl rfl ?_
  refine z_iconst (pc' := 1313) C dL_law_1312 zk_iconst_1 rfl ?_
  refine z_iadd (pc' := 1314) C dL_law_1313 rfl ?_
  refine z_sld (pc' := 1315) C hX hb hw (v := q 1) (hs 1 (by decide)) dL_law_1314 rfl ?_
  refine z_callV (pc' := 1318) (st := []) (h' := gW w h0 σ ρ' (vp_updL u 0 (v.toInt64))) C (d_X9_certificateContract hN  hg) zy_X9_certificateContract zw_1521 zw_1522 zw_1523 (ci := 9) rfl (gW_c (k := 0) (by omega) rfl) rfl rfl rfl rfl (room_ok hk hn (by dsimp only [zrx, zr]; omega) (by dsimp only [zrx, zr]; omega)) dL_law_1315 rfl ?_
  refine z_istore (pc' := 1320) C _ dL_law_1318 rfl rfl rfl ?_
  refine z_aload_n (pc' := 1321) C 4 dL_law_1320 rfl rfl rfl ?_
  refine z_callV (pc' := 1324) (st := []) (h' := gW w h0 σ ρ' (vp_updL u 0 (v.toInt64))) C (d_X9_thrown hN (v := md_thrown ρ') rfl) zy_X9_thrown zw_1236 zw_1237 zw_1238 (ci := 9) rfl (gW_c (k := 0) (by omega) rfl) rfl rfl rfl rfl (room_ok hk hn (by dsimp only [zrx, zr]; omega) (by dsimp only [zrx, zr]; omega)) dL_law_1321 rfl ?_
  refine z_iload (pc' := 1326) C 1 dL_law_1324 rfl rfl ?_
  refine z_icmp_eq (pc' := 1329) C 1331 (if_pos ht : (if _ = _ then some () else (none : Option Unit)) = some ()) dL_law_1326 rfl rfl (fun _ _ => ?_) (fun q _ => absurd ht q)
  refine z_iload (pc' := 1333) C 1 dL_law_1331 rfl rfl ?_
  refine z_if_ne (pc' := 1336) C 1348 (if_pos rfl : (if (0 : Int32) = 0 then some () else (none : Option Unit)) = some ()) dL_law_1333 rfl rfl (fun q _ => absurd rfl q) (fun _ _ => ?_)
  refine z_aload_n (pc' := 1337) C 3 dL_law_1336 rfl rfl rfl ?_
  refine z_iconst (pc' := 1338) C dL_law_1337 zk_iconst_0 rfl ?_
  refine z_lald (pc' := 1339) C (K := fun v => some v) rfl (gW_c (k := 6) (by omega) rfl) dL_law_1338 rfl (fun v0 hv0 => ?_)
  cases hv0
  refine z_iload (pc' := 1341) C 0 dL_law_1339 rfl rfl ?_
  refine z_i2l (pc' := 1342) C dL_law_1341 rfl ?_
  refine z_lcmp_eq (pc' := 1346) (pc1 := 1343) C 1348 (if_pos hv : (if _ = _ then some () else (none : Option Unit)) = some ()) dL_law_1342 rfl dL_law_1343 rfl rfl (fun _ _ => ?_) (fun q _ => absurd hv q)
  refine z_goto C 2707 dL_law_1348 rfl ?_
  refine z_pick (lv' := lw_lv w b i) [2, 3, 4, 5, 6] rfl ?_
  exact kk _ _ _ (by dsimp only [zrx, zr]; omega) (by dsimp only [zrx, zr]; omega)
theorem lc_certificateContract_x1 (hN : 396 ≤ N) (hC : lw_C X w b L xs) (hs : lw_sc L xs i q) (hk : k + 12 ≤ 601024) (hn : n + 1000 ≤ 7293033) {b9 : Int32} (hf : f_X8_certificateContract σ (q 1) = some (.inl "java/lang/IndexOutOfBoundsException")) (hg : g_X9_certificateContract ρ (q 1) = some (b9, ρ')) (ht : md_thrown ρ' = 1) (kk : lw_N X w Q b i N h0 k n σ ρ') : zZ X w Q k n false N (gW w h0 σ ρ u) 1295 (lw_lv w b i) [] := by
  obtain ⟨C, hX, hb, hw⟩ := hC
  refine z_aload_n (pc' := 1296) C 3 dL_law_1295 rfl rfl rfl ?_
  refine z_aload_n (pc' := 1297) C 4 dL_law_1296 rfl rfl rfl ?_
  refine z_iload (pc' := 1299) C 0 dL_law_1297 rfl rfl ?_
  refine z_iconst (pc' := 1300) C dL_law_1299 zk_iconst_1 rfl ?_
  refine z_iadd (pc' := 1301) C dL_law_1300 rfl ?_
  refine z_sld (pc' := 1302) C hX hb hw (v := q 1) (hs 1 (by decide)) dL_law_1301 rfl ?_
  refine z_aload_n (pc' := 1303) C 1 dL_law_1302 rfl rfl rfl ?_
  refine z_callSW (pc' := 1306) (m := 3) (st := []) (h' := gW w h0 σ ρ u) C (c_L_certificateContract_1 (a := 0) (c0 := 395) (N := N) (by omega) (by omega) (zc_w (a := 389) (o := 6) (by omega) rfl) hf) zw_880 zw_0 (by decide +kernel) zw_878 zw_879 rfl rfl rfl rfl (room_ok hk hn (by dsimp only [zrx, zr]; omega) (by dsimp only [zrx, zr]; omega)) dL_law_1303 rfl ?_
  refine z_istore (pc' := 1308) C _ dL_law_1306 rfl rfl rfl ?_
  refine z_aload_n (pc' := 1309) C 3 dL_law_1308 rfl rfl rfl ?_
  refine z_aload_n (pc' := 1310) C 5 dL_law_1309 rfl rfl rfl ?_
  refine z_iload (pc' := 1312) C 1 dL_law_1310 rfl rfl ?_
  refine z_iconst (pc' := 1313) C dL_law_1312 zk_iconst_1 rfl ?_
  refine z_iadd (pc' := 1314) C dL_law_1313 rfl ?_
  refine z_sld (pc' := 1315) C hX hb hw (v := q 1) (hs 1 (by decide)) dL_law_1314 rfl ?_
  refine z_callV (pc' := 1318) (st := []) (h' := gW w h0 σ ρ' u) C (d_X9_certificateContract hN  hg) zy_X9_certificateContract zw_1521 zw_1522 zw_1523 (ci := 9) rfl (gW_c (k := 0) (by omega) rfl) rfl rfl rfl rfl (room_ok hk hn (by dsimp only [zrx, zr]; omega) (by dsimp only [zrx, zr]; omega)) dL_law_1315 rfl ?_
  refine z_istore (pc' := 1320) C _ dL_law_1318 rfl rfl rfl ?_
  refine z_aload_n (pc' := 1321) C 4 dL_law_1320 rfl rfl rfl ?_
  refine z_callV (pc' := 1324) (st := []) (h' := gW w h0 σ ρ' u) C (d_X9_thrown hN (v := md_thrown ρ') rfl) zy_X9_thrown zw_1236 zw_1237 zw_1238 (ci := 9) rfl (gW_c (k := 0) (by omega) rfl) rfl rfl rfl rfl (room_ok hk hn (by dsimp only [zrx, zr]; omega) (by dsimp only [zrx, zr]; omega)) dL_law_1321 rfl ?_
  refine z_iload (pc' := 1326) C 1 dL_law_1324 rfl rfl ?_
  refine z_icmp_eq (pc' := 1329) C 1331 (if_pos ht : (if _ = _ then some () else (none : Option Unit)) = some ()) dL_law_1326 rfl rfl (fun _ _ => ?_) (fun q _ => absurd ht q)
  refine z_iload (pc' := 1333) C 1 dL_law_1331 rfl rfl ?_
  refine z_if_ne (pc' := 1336) C 1348 (if_neg (by decide) : (if (1 : Int32) = 0 then (none : Option Unit) else some ()) = some ()) dL_law_1333 rfl rfl (fun _ _ => ?_) (fun q _ => absurd q (by decide))
  refine z_goto C 2707 dL_law_1348 rfl ?_
  refine z_pick (lv' := lw_lv w b i) [2, 3, 4, 5, 6] rfl ?_
  exact kk _ _ _ (by dsimp only [zrx, zr]; omega) (by dsimp only [zrx, zr]; omega)
theorem lc_amount (hN : 396 ≤ N) (hC : lw_C X w b L xs) (hs : lw_sc L xs i q) (hk : k + 12 ≤ 601024) (hn : n + 1000 ≤ 7293033) {v : Int64} {b9 : Int64} (hf : f_X8_amount σ (q 1) = some (.inr v)) (hg : g_X9_amount ρ (q 1) = some (b9, ρ')) (ht : md_thrown ρ' = 0) (hv : v = b9) (kk : lw_N X w Q b i N h0 k n σ ρ') : zZ X w Q k n false N (gW w h0 σ ρ u) 1351 (lw_lv w b i) [] := by
  obtain ⟨C, hX, hb, hw⟩ := hC
  refine z_aload_n (pc' := 1352) C 3 dL_law_1351 rfl rfl rfl ?_
  refine z_aload_n (pc' := 1353) C 4 dL_law_1352 rfl rfl rfl ?_
  refine z_iload (pc' := 1355) C 0 dL_law_1353 rfl rfl ?_
  refine z_iconst (pc' := 1356) C dL_law_1355 zk_iconst_1 rfl ?_
  refine z_iadd (pc' := 1357) C dL_law_1356 rfl ?_
  refine z_sld (pc' := 1358) C hX hb hw (v := q 1) (hs 1 (by decide)) dL_law_1357 rfl ?_
  refine z_aload_n (pc' := 1359) C 1 dL_law_1358 rfl rfl rfl ?_
  refine z_callSW (pc' := 1362) (m := 3) (st := []) (h' := gW w h0 σ ρ (vp_updL u 0 (v))) C (zMw_eq gW_o (c_L_amount (a := 0) (c0 := 395) (N := N) (by omega) (by omega) (zc_w (a := 389) (o := 6) (by omega) rfl) hf)) zw_891 zw_0 (by decide +kernel) zw_889 zw_890 rfl rfl rfl rfl (room_ok hk hn (by dsimp only [zrx, zr]; omega) (by dsimp only [zrx, zr]; omega)) dL_law_1359 rfl ?_
  refine z_istore (pc' := 1364) C _ dL_law_1362 rfl rfl rfl ?_
  refine z_aload_n (pc' := 1365) C 3 dL_law_1364 rfl rfl rfl ?_
  refine z_aload_n (pc' := 1366) C 5 dL_law_1365 rfl rfl rfl ?_
  refine z_iload (pc' := 1368) C 1 dL_law_1366 rfl rfl ?_
  refine z_iconst (pc' := 1369) C dL_law_1368 zk_iconst_1 rfl ?_
  refine z_iadd (pc' := 1370) C dL_law_1369 rfl ?_
  refine z_sld (pc' := 1371) C hX hb hw (v := q 1) (hs 1 (by decide)) dL_law_1370 rfl ?_
  refine z_callV (pc' := 1374) (st := []) (h' := gW w h0 σ ρ' (vp_updL u 0 (v))) C (d_X9_amount hN  hg) zy_X9_amount zw_1529 zw_1530 zw_1531 (ci := 9) rfl (gW_c (k := 0) (by omega) rfl) rfl rfl rfl rfl (room_ok hk hn (by dsimp only [zrx, zr]; omega) (by dsimp only [zrx, zr]; omega)) dL_law_1371 rfl ?_
  refine z_lstore (pc' := 1376) C _ dL_law_1374 rfl rfl rfl ?_
  refine z_aload_n (pc' := 1377) C 4 dL_law_1376 rfl rfl rfl ?_
  refine z_callV (pc' := 1380) (st := []) (h' := gW w h0 σ ρ' (vp_updL u 0 (v))) C (d_X9_thrown hN (v := md_thrown ρ') rfl) zy_X9_thrown zw_1236 zw_1237 zw_1238 (ci := 9) rfl (gW_c (k := 0) (by omega) rfl) rfl rfl rfl rfl (room_ok hk hn (by dsimp only [zrx, zr]; omega) (by dsimp only [zrx, zr]; omega)) dL_law_1377 rfl ?_
  refine z_iload (pc' := 1382) C 1 dL_law_1380 rfl rfl ?_
  refine z_icmp_eq (pc' := 1385) C 1387 (if_pos ht : (if _ = _ then some () else (none : Option Unit)) = some ()) dL_law_1382 rfl rfl (fun _ _ => ?_) (fun q _ => absurd ht q)
  refine z_iload (pc' := 1389) C 1 dL_law_1387 rfl rfl ?_
  refine z_if_ne (pc' := 1392) C 1403 (if_pos rfl : (if (0 : Int32) = 0 then some () else (none : Option Unit)) = some ()) dL_law_1389 rfl rfl (fun q _ => absurd rfl q) (fun _ _ => ?_)
  refine z_aload_n (pc' := 1393) C 3 dL_law_1392 rfl rfl rfl ?_
  refine z_iconst (pc' := 1394) C dL_law_1393 zk_iconst_0 rfl ?_
  refine z_lald (pc' := 1395) C (K := fun v => some v) rfl (gW_c (k := 6) (by omega) rfl) dL_law_1394 rfl (fun v0 hv0 => ?_)
  cases hv0
  refine z_lload (pc' := 1397) C 0 dL_law_1395 rfl rfl ?_
  refine z_lcmp_eq (pc' := 1401) (pc1 := 1398) C 1403 (if_pos hv : (if _ = _ then some () else (none : Option Unit)) = some ()) dL_law_1397 rfl dL_law_1398 rfl rfl (fun _ _ => ?_) (fun q _ => absurd hv q)
  refine z_goto C 2707 dL_law_1403 rfl ?_
  refine z_pick (lv' := lw_lv w b i) [2, 3, 4, 5, 6] rfl ?_
  exact kk _ _ _ (by dsimp only [zrx, zr]; omega) (by dsimp only [zrx, zr]; omega)
theorem lc_amount_x1 (hN : 396 ≤ N) (hC : lw_C X w b L xs) (hs : lw_sc L xs i q) (hk : k + 12 ≤ 601024) (hn : n + 1000 ≤ 7293033) {b9 : Int64} (hf : f_X8_amount σ (q 1) = some (.inl "java/lang/IndexOutOfBoundsException")) (hg : g_X9_amount ρ (q 1) = some (b9, ρ')) (ht : md_thrown ρ' = 1) (kk : lw_N X w Q b i N h0 k n σ ρ') : zZ X w Q k n false N (gW w h0 σ ρ u) 1351 (lw_lv w b i) [] := by
  obtain ⟨C, hX, hb, hw⟩ := hC
  refine z_aload_n (pc' := 1352) C 3 dL_law_1351 rfl rfl rfl ?_
  refine z_aload_n (pc' := 1353) C 4 dL_law_1352 rfl rfl rfl ?_
  refine z_iload (pc' := 1355) C 0 dL_law_1353 rfl rfl ?_
  refine z_iconst (pc' := 1356) C dL_law_1355 zk_iconst_1 rfl ?_
  refine z_iadd (pc' := 1357) C dL_law_1356 rfl ?_
  refine z_sld (pc' := 1358) C hX hb hw (v := q 1) (hs 1 (by decide)) dL_law_1357 rfl ?_
  refine z_aload_n (pc' := 1359) C 1 dL_law_1358 rfl rfl rfl ?_
  refine z_callSW (pc' := 1362) (m := 3) (st := []) (h' := gW w h0 σ ρ u) C (c_L_amount_1 (a := 0) (c0 := 395) (N := N) (by omega) (by omega) (zc_w (a := 389) (o := 6) (by omega) rfl) hf) zw_891 zw_0 (by decide +kernel) zw_889 zw_890 rfl rfl rfl rfl (room_ok hk hn (by dsimp only [zrx, zr]; omega) (by dsimp only [zrx, zr]; omega)) dL_law_1359 rfl ?_
  refine z_istore (pc' := 1364) C _ dL_law_1362 rfl rfl rfl ?_
  refine z_aload_n (pc' := 1365) C 3 dL_law_1364 rfl rfl rfl ?_
  refine z_aload_n (pc' := 1366) C 5 dL_law_1365 rfl rfl rfl ?_
  refine z_iload (pc' := 1368) C 1 dL_law_1366 rfl rfl ?_
  refine z_iconst (pc' := 1369) C dL_law_1368 zk_iconst_1 rfl ?_
  refine z_iadd (pc' := 1370) C dL_law_1369 rfl ?_
  refine z_sld (pc' := 1371) C hX hb hw (v := q 1) (hs 1 (by decide)) dL_law_1370 rfl ?_
  refine z_callV (pc' := 1374) (st := []) (h' := gW w h0 σ ρ' u) C (d_X9_amount hN  hg) zy_X9_amount zw_1529 zw_1530 zw_1531 (ci := 9) rfl (gW_c (k := 0) (by omega) rfl) rfl rfl rfl rfl (room_ok hk hn (by dsimp only [zrx, zr]; omega) (by dsimp only [zrx, zr]; omega)) dL_law_1371 rfl ?_
  refine z_lstore (pc' := 1376) C _ dL_law_1374 rfl rfl rfl ?_
  refine z_aload_n (pc' := 1377) C 4 dL_law_1376 rfl rfl rfl ?_
  refine z_callV (pc' := 1380) (st := []) (h' := gW w h0 σ ρ' u) C (d_X9_thrown hN (v := md_thrown ρ') rfl) zy_X9_thrown zw_1236 zw_1237 zw_1238 (ci := 9) rfl (gW_c (k := 0) (by omega) rfl) rfl rfl rfl rfl (room_ok hk hn (by dsimp only [zrx, zr]; omega) (by dsimp only [zrx, zr]; omega)) dL_law_1377 rfl ?_
  refine z_iload (pc' := 1382) C 1 dL_law_1380 rfl rfl ?_
  refine z_icmp_eq (pc' := 1385) C 1387 (if_pos ht : (if _ = _ then some () else (none : Option Unit)) = some ()) dL_law_1382 rfl rfl (fun _ _ => ?_) (fun q _ => absurd ht q)
  refine z_iload (pc' := 1389) C 1 dL_law_1387 rfl rfl ?_
  refine z_if_ne (pc' := 1392) C 1403 (if_neg (by decide) : (if (1 : Int32) = 0 then (none : Option Unit) else some ()) = some ()) dL_law_1389 rfl rfl (fun _ _ => ?_) (fun q _ => absurd q (by decide))
  refine z_goto C 2707 dL_law_1403 rfl ?_
  refine z_pick (lv' := lw_lv w b i) [2, 3, 4, 5, 6] rfl ?_
  exact kk _ _ _ (by dsimp only [zrx, zr]; omega) (by dsimp only [zrx, zr]; omega)
theorem lc_openAmount (hN : 396 ≤ N) (hC : lw_C X w b L xs) (hs : lw_sc L xs i q) (hk : k + 12 ≤ 601024) (hn : n + 1000 ≤ 7293033) {v : Int64} {b9 : Int64} (hf : f_X8_openAmount σ (q 1) = some (.inr v)) (hg : g_X9_openAmount ρ (q 1) = some (b9, ρ')) (ht : md_thrown ρ' = 0) (hv : v = b9) (kk : lw_N X w Q b i N h0 k n σ ρ') : zZ X w Q k n false N (gW w h0 σ ρ u) 1406 (lw_lv w b i) [] := by
  obtain ⟨C, hX, hb, hw⟩ := hC
  refine z_aload_n (pc' := 1407) C 3 dL_law_1406 rfl rfl rfl ?_
  refine z_aload_n (pc' := 1408) C 4 dL_law_1407 rfl rfl rfl ?_
  refine z_iload (pc' := 1410) C 0 dL_law_1408 rfl rfl ?_
  refine z_iconst (pc' := 1411) C dL_law_1410 zk_iconst_1 rfl ?_
  refine z_iadd (pc' := 1412) C dL_law_1411 rfl ?_
  refine z_sld (pc' := 1413) C hX hb hw (v := q 1) (hs 1 (by decide)) dL_law_1412 rfl ?_
  refine z_aload_n (pc' := 1414) C 1 dL_law_1413 rfl rfl rfl ?_
  refine z_callSW (pc' := 1417) (m := 3) (st := []) (h' := gW w h0 σ ρ (vp_updL u 0 (v))) C (zMw_eq gW_o (c_L_openAmount (a := 0) (c0 := 395) (N := N) (by omega) (by omega) (zc_w (a := 389) (o := 6) (by omega) rfl) hf)) zw_898 zw_0 (by decide +kernel) zw_896 zw_897 rfl rfl rfl rfl (room_ok hk hn (by dsimp only [zrx, zr]; omega) (by dsimp only [zrx, zr]; omega)) dL_law_1414 rfl ?_
  refine z_istore (pc' := 1419) C _ dL_law_1417 rfl rfl rfl ?_
  refine z_aload_n (pc' := 1420) C 3 dL_law_1419 rfl rfl rfl ?_
  refine z_aload_n (pc' := 1421) C 5 dL_law_1420 rfl rfl rfl ?_
  refine z_iload (pc' := 1423) C 1 dL_law_1421 rfl rfl ?_
  refine z_iconst (pc' := 1424) C dL_law_1423 zk_iconst_1 rfl ?_
  refine z_iadd (pc' := 1425) C dL_law_1424 rfl ?_
  refine z_sld (pc' := 1426) C hX hb hw (v := q 1) (hs 1 (by decide)) dL_law_1425 rfl ?_
  refine z_callV (pc' := 1429) (st := []) (h' := gW w h0 σ ρ' (vp_updL u 0 (v))) C (d_X9_openAmount hN  hg) zy_X9_openAmount zw_1533 zw_1534 zw_1535 (ci := 9) rfl (gW_c (k := 0) (by omega) rfl) rfl rfl rfl rfl (room_ok hk hn (by dsimp only [zrx, zr]; omega) (by dsimp only [zrx, zr]; omega)) dL_law_1426 rfl ?_
  refine z_lstore (pc' := 1431) C _ dL_law_1429 rfl rfl rfl ?_
  refine z_aload_n (pc' := 1432) C 4 dL_law_1431 rfl rfl rfl ?_
  refine z_callV (pc' := 1435) (st := []) (h' := gW w h0 σ ρ' (vp_updL u 0 (v))) C (d_X9_thrown hN (v := md_thrown ρ') rfl) zy_X9_thrown zw_1236 zw_1237 zw_1238 (ci := 9) rfl (gW_c (k := 0) (by omega) rfl) rfl rfl rfl rfl (room_ok hk hn (by dsimp only [zrx, zr]; omega) (by dsimp only [zrx, zr]; omega)) dL_law_1432 rfl ?_
  refine z_iload (pc' := 1437) C 1 dL_law_1435 rfl rfl ?_
  refine z_icmp_eq (pc' := 1440) C 1442 (if_pos ht : (if _ = _ then some () else (none : Option Unit)) = some ()) dL_law_1437 rfl rfl (fun _ _ => ?_) (fun q _ => absurd ht q)
  refine z_iload (pc' := 1444) C 1 dL_law_1442 rfl rfl ?_
  refine z_if_ne (pc' := 1447) C 1458 (if_pos rfl : (if (0 : Int32) = 0 then some () else (none : Option Unit)) = some ()) dL_law_1444 rfl rfl (fun q _ => absurd rfl q) (fun _ _ => ?_)
  refine z_aload_n (pc' := 1448) C 3 dL_law_1447 rfl rfl rfl ?_
  refine z_iconst (pc' := 1449) C dL_law_1448 zk_iconst_0 rfl ?_
  refine z_lald (pc' := 1450) C (K := fun v => some v) rfl (gW_c (k := 6) (by omega) rfl) dL_law_1449 rfl (fun v0 hv0 => ?_)
  cases hv0
  refine z_lload (pc' := 1452) C 0 dL_law_1450 rfl rfl ?_
  refine z_lcmp_eq (pc' := 1456) (pc1 := 1453) C 1458 (if_pos hv : (if _ = _ then some () else (none : Option Unit)) = some ()) dL_law_1452 rfl dL_law_1453 rfl rfl (fun _ _ => ?_) (fun q _ => absurd hv q)
  refine z_goto C 2707 dL_law_1458 rfl ?_
  refine z_pick (lv' := lw_lv w b i) [2, 3, 4, 5, 6] rfl ?_
  exact kk _ _ _ (by dsimp only [zrx, zr]; omega) (by dsimp only [zrx, zr]; omega)
theorem lc_openAmount_x1 (hN : 396 ≤ N) (hC : lw_C X w b L xs) (hs : lw_sc L xs i q) (hk : k + 12 ≤ 601024) (hn : n + 1000 ≤ 7293033) {b9 : Int64} (hf : f_X8_openAmount σ (q 1) = some (.inl "java/lang/IndexOutOfBoundsException")) (hg : g_X9_openAmount ρ (q 1) = some (b9, ρ')) (ht : md_thrown ρ' = 1) (kk : lw_N X w Q b i N h0 k n σ ρ') : zZ X w Q k n false N (gW w h0 σ ρ u) 1406 (lw_lv w b i) [] := by
  obtain ⟨C, hX, hb, hw⟩ := hC
  refine z_aload_n (pc' := 1407) C 3 dL_law_1406 rfl rfl rfl ?_
  refine z_aload_n (pc' := 1408) C 4 dL_law_1407 rfl rfl rfl ?_
  refine z_iload (pc' := 1410) C 0 dL_law_1408 rfl rfl ?_
  refine z_iconst (pc' := 1411) C dL_law_1410 zk_iconst_1 rfl ?_
  refine z_iadd (pc' := 1412) C dL_law_1411 rfl ?_
  refine z_sld (pc' := 1413) C hX hb hw (v := q 1) (hs 1 (by decide)) dL_law_1412 rfl ?_
  refine z_aload_n (pc' := 1414) C 1 dL_law_1413 rfl rfl rfl ?_
  refine z_callSW (pc' := 1417) (m := 3) (st := []) (h' := gW w h0 σ ρ u) C (c_L_openAmount_1 (a := 0) (c0 := 395) (N := N) (by omega) (by omega) (zc_w (a := 389) (o := 6) (by omega) rfl) hf) zw_898 zw_0 (by decide +kernel) zw_896 zw_897 rfl rfl rfl rfl (room_ok hk hn (by dsimp only [zrx, zr]; omega) (by dsimp only [zrx, zr]; omega)) dL_law_1414 rfl ?_
  refine z_istore (pc' := 1419) C _ dL_law_1417 rfl rfl rfl ?_
  refine z_aload_n (pc' := 1420) C 3 dL_law_1419 rfl rfl rfl ?_
  refine z_aload_n (pc' := 1421) C 5 dL_law_1420 rfl rfl rfl ?_
  refine z_iload (pc' := 1423) C 1 dL_law_1421 rfl rfl ?_
  refine z_iconst (pc' := 1424) C dL_law_1423 zk_iconst_1 rfl ?_
  refine z_iadd (pc' := 1425) C dL_law_1424 rfl ?_
  refine z_sld (pc' := 1426) C hX hb hw (v := q 1) (hs 1 (by decide)) dL_law_1425 rfl ?_
  refine z_callV (pc' := 1429) (st := []) (h' := gW w h0 σ ρ' u) C (d_X9_openAmount hN  hg) zy_X9_openAmount zw_1533 zw_1534 zw_1535 (ci := 9) rfl (gW_c (k := 0) (by omega) rfl) rfl rfl rfl rfl (room_ok hk hn (by dsimp only [zrx, zr]; omega) (by dsimp only [zrx, zr]; omega)) dL_law_1426 rfl ?_
  refine z_lstore (pc' := 1431) C _ dL_law_1429 rfl rfl rfl ?_
  refine z_aload_n (pc' := 1432) C 4 dL_law_1431 rfl rfl rfl ?_
  refine z_callV (pc' := 1435) (st := []) (h' := gW w h0 σ ρ' u) C (d_X9_thrown hN (v := md_thrown ρ') rfl) zy_X9_thrown zw_1236 zw_1237 zw_1238 (ci := 9) rfl (gW_c (k := 0) (by omega) rfl) rfl rfl rfl rfl (room_ok hk hn (by dsimp only [zrx, zr]; omega) (by dsimp only [zrx, zr]; omega)) dL_law_1432 rfl ?_
  refine z_iload (pc' := 1437) C 1 dL_law_1435 rfl rfl ?_
  refine z_icmp_eq (pc' := 1440) C 1442 (if_pos ht : (if _ = _ then some () else (none : Option Unit)) = some ()) dL_law_1437 rfl rfl (fun _ _ => ?_) (fun q _ => absurd ht q)
  refine z_iload (pc' := 1444) C 1 dL_law_1442 rfl rfl ?_
  refine z_if_ne (pc' := 1447) C 1458 (if_neg (by decide) : (if (1 : Int32) = 0 then (none : Option Unit) else some ()) = some ()) dL_law_1444 rfl rfl (fun _ _ => ?_) (fun q _ => absurd q (by decide))
  refine z_goto C 2707 dL_law_1458 rfl ?_
  refine z_pick (lv' := lw_lv w b i) [2, 3, 4, 5, 6] rfl ?_
  exact kk _ _ _ (by dsimp only [zrx, zr]; omega) (by dsimp only [zrx, zr]; omega)
theorem lc_dueDay (hN : 396 ≤ N) (hC : lw_C X w b L xs) (hs : lw_sc L xs i q) (hk : k + 12 ≤ 601024) (hn : n + 1000 ≤ 7293033) {v : Int32} {b9 : Int32} (hf : f_X8_dueDay σ (q 1) = some (.inr v)) (hg : g_X9_dueDay ρ (q 1) = some (b9, ρ')) (ht : md_thrown ρ' = 0) (hv : v.toInt64 = b9.toInt64) (kk : lw_N X w Q b i N h0 k n σ ρ') : zZ X w Q k n false N (gW w h0 σ ρ u) 1461 (lw_lv w b i) [] := by
  obtain ⟨C, hX, hb, hw⟩ := hC
  refine z_aload_n (pc' := 1462) C 3 dL_law_1461 rfl rfl rfl ?_
  refine z_aload_n (pc' := 1463) C 4 dL_law_1462 rfl rfl rfl ?_
  refine z_iload (pc' := 1465) C 0 dL_law_1463 rfl rfl ?_
  refine z_iconst (pc' := 1466) C dL_law_1465 zk_iconst_1 rfl ?_
  refine z_iadd (pc' := 1467) C dL_law_1466 rfl ?_
  refine z_sld (pc' := 1468) C hX hb hw (v := q 1) (hs 1 (by decide)) dL_law_1467 rfl ?_
  refine z_aload_n (pc' := 1469) C 1 dL_law_1468 rfl rfl rfl ?_
  refine z_callSW (pc' := 1472) (m := 3) (st := []) (h' := gW w h0 σ ρ (vp_updL u 0 (v.toInt64))) C (zMw_eq gW_o (c_L_dueDay (a := 0) (c0 := 395) (N := N) (by omega) (by omega) (zc_w (a := 389) (o := 6) (by omega) rfl) hf)) zw_905 zw_0 (by decide +kernel) zw_903 zw_904 rfl rfl rfl rfl (room_ok hk hn (by dsimp only [zrx, zr]; omega) (by dsimp only [zrx, zr]; omega)) dL_law_1469 rfl ?_
  refine z_istore (pc' := 1474) C _ dL_law_1472 rfl rfl rfl ?_
  refine z_aload_n (pc' := 1475) C 3 dL_law_1474 rfl rfl rfl ?_
  refine z_aload_n (pc' := 1476) C 5 dL_law_1475 rfl rfl rfl ?_
  refine z_iload (pc' := 1478) C 1 dL_law_1476 rfl rfl ?_
  refine z_iconst (pc' := 1479) C dL_law_1478 zk_iconst_1 rfl ?_
  refine z_iadd (pc' := 1480) C dL_law_1479 rfl ?_
  refine z_sld (pc' := 1481) C hX hb hw (v := q 1) (hs 1 (by decide)) dL_law_1480 rfl ?_
  refine z_callV (pc' := 1484) (st := []) (h' := gW w h0 σ ρ' (vp_updL u 0 (v.toInt64))) C (d_X9_dueDay hN  hg) zy_X9_dueDay zw_1537 zw_1538 zw_1539 (ci := 9) rfl (gW_c (k := 0) (by omega) rfl) rfl rfl rfl rfl (room_ok hk hn (by dsimp only [zrx, zr]; omega) (by dsimp only [zrx, zr]; omega)) dL_law_1481 rfl ?_
  refine z_istore (pc' := 1486) C _ dL_law_1484 rfl rfl rfl ?_
  refine z_aload_n (pc' := 1487) C 4 dL_law_1486 rfl rfl rfl ?_
  refine z_callV (pc' := 1490) (st := []) (h' := gW w h0 σ ρ' (vp_updL u 0 (v.toInt64))) C (d_X9_thrown hN (v := md_thrown ρ') rfl) zy_X9_thrown zw_1236 zw_1237 zw_1238 (ci := 9) rfl (gW_c (k := 0) (by omega) rfl) rfl rfl rfl rfl (room_ok hk hn (by dsimp only [zrx, zr]; omega) (by dsimp only [zrx, zr]; omega)) dL_law_1487 rfl ?_
  refine z_iload (pc' := 1492) C 1 dL_law_1490 rfl rfl ?_
  refine z_icmp_eq (pc' := 1495) C 1497 (if_pos ht : (if _ = _ then some () else (none : Option Unit)) = some ()) dL_law_1492 rfl rfl (fun _ _ => ?_) (fun q _ => absurd ht q)
  refine z_iload (pc' := 1499) C 1 dL_law_1497 rfl rfl ?_
  refine z_if_ne (pc' := 1502) C 1514 (if_pos rfl : (if (0 : Int32) = 0 then some () else (none : Option Unit)) = some ()) dL_law_1499 rfl rfl (fun q _ => absurd rfl q) (fun _ _ => ?_)
  refine z_aload_n (pc' := 1503) C 3 dL_law_1502 rfl rfl rfl ?_
  refine z_iconst (pc' := 1504) C dL_law_1503 zk_iconst_0 rfl ?_
  refine z_lald (pc' := 1505) C (K := fun v => some v) rfl (gW_c (k := 6) (by omega) rfl) dL_law_1504 rfl (fun v0 hv0 => ?_)
  cases hv0
  refine z_iload (pc' := 1507) C 0 dL_law_1505 rfl rfl ?_
  refine z_i2l (pc' := 1508) C dL_law_1507 rfl ?_
  refine z_lcmp_eq (pc' := 1512) (pc1 := 1509) C 1514 (if_pos hv : (if _ = _ then some () else (none : Option Unit)) = some ()) dL_law_1508 rfl dL_law_1509 rfl rfl (fun _ _ => ?_) (fun q _ => absurd hv q)
  refine z_goto C 2707 dL_law_1514 rfl ?_
  refine z_pick (lv' := lw_lv w b i) [2, 3, 4, 5, 6] rfl ?_
  exact kk _ _ _ (by dsimp only [zrx, zr]; omega) (by dsimp only [zrx, zr]; omega)
theorem lc_dueDay_x1 (hN : 396 ≤ N) (hC : lw_C X w b L xs) (hs : lw_sc L xs i q) (hk : k + 12 ≤ 601024) (hn : n + 1000 ≤ 7293033) {b9 : Int32} (hf : f_X8_dueDay σ (q 1) = some (.inl "java/lang/IndexOutOfBoundsException")) (hg : g_X9_dueDay ρ (q 1) = some (b9, ρ')) (ht : md_thrown ρ' = 1) (kk : lw_N X w Q b i N h0 k n σ ρ') : zZ X w Q k n false N (gW w h0 σ ρ u) 1461 (lw_lv w b i) [] := by
  obtain ⟨C, hX, hb, hw⟩ := hC
  refine z_aload_n (pc' := 1462) C 3 dL_law_1461 rfl rfl rfl ?_
  refine z_aload_n (pc' := 1463) C 4 dL_law_1462 rfl rfl rfl ?_
  refine z_iload (pc' := 1465) C 0 dL_law_1463 rfl rfl ?_
  refine z_iconst (pc' := 1466) C dL_law_1465 zk_iconst_1 rfl ?_
  refine z_iadd (pc' := 1467) C dL_law_1466 rfl ?_
  refine z_sld (pc' := 1468) C hX hb hw (v := q 1) (hs 1 (by decide)) dL_law_1467 rfl ?_
  refine z_aload_n (pc' := 1469) C 1 dL_law_1468 rfl rfl rfl ?_
  refine z_callSW (pc' := 1472) (m := 3) (st := []) (h' := gW w h0 σ ρ u) C (c_L_dueDay_1 (a := 0) (c0 := 395) (N := N) (by omega) (by omega) (zc_w (a := 389) (o := 6) (by omega) rfl) hf) zw_905 zw_0 (by decide +kernel) zw_903 zw_904 rfl rfl rfl rfl (room_ok hk hn (by dsimp only [zrx, zr]; omega) (by dsimp only [zrx, zr]; omega)) dL_law_1469 rfl ?_
  refine z_istore (pc' := 1474) C _ dL_law_1472 rfl rfl rfl ?_
  refine z_aload_n (pc' := 1475) C 3 dL_law_1474 rfl rfl rfl ?_
  refine z_aload_n (pc' := 1476) C 5 dL_law_1475 rfl rfl rfl ?_
  refine z_iload (pc' := 1478) C 1 dL_law_1476 rfl rfl ?_
  refine z_iconst (pc' := 1479) C dL_law_1478 zk_iconst_1 rfl ?_
  refine z_iadd (pc' := 1480) C dL_law_1479 rfl ?_
  refine z_sld (pc' := 1481) C hX hb hw (v := q 1) (hs 1 (by decide)) dL_law_1480 rfl ?_
  refine z_callV (pc' := 1484) (st := []) (h' := gW w h0 σ ρ' u) C (d_X9_dueDay hN  hg) zy_X9_dueDay zw_1537 zw_1538 zw_1539 (ci := 9) rfl (gW_c (k := 0) (by omega) rfl) rfl rfl rfl rfl (room_ok hk hn (by dsimp only [zrx, zr]; omega) (by dsimp only [zrx, zr]; omega)) dL_law_1481 rfl ?_
  refine z_istore (pc' := 1486) C _ dL_law_1484 rfl rfl rfl ?_
  refine z_aload_n (pc' := 1487) C 4 dL_law_1486 rfl rfl rfl ?_
  refine z_callV (pc' := 1490) (st := []) (h' := gW w h0 σ ρ' u) C (d_X9_thrown hN (v := md_thrown ρ') rfl) zy_X9_thrown zw_1236 zw_1237 zw_1238 (ci := 9) rfl (gW_c (k := 0) (by omega) rfl) rfl rfl rfl rfl (room_ok hk hn (by dsimp only [zrx, zr]; omega) (by dsimp only [zrx, zr]; omega)) dL_law_1487 rfl ?_
  refine z_iload (pc' := 1492) C 1 dL_law_1490 rfl rfl ?_
  refine z_icmp_eq (pc' := 1495) C 1497 (if_pos ht : (if _ = _ then some () else (none : Option Unit)) = some ()) dL_law_1492 rfl rfl (fun _ _ => ?_) (fun q _ => absurd ht q)
  refine z_iload (pc' := 1499) C 1 dL_law_1497 rfl rfl ?_
  refine z_if_ne (pc' := 1502) C 1514 (if_neg (by decide) : (if (1 : Int32) = 0 then (none : Option Unit) else some ()) = some ()) dL_law_1499 rfl rfl (fun _ _ => ?_) (fun q _ => absurd q (by decide))
  refine z_goto C 2707 dL_law_1514 rfl ?_
  refine z_pick (lv' := lw_lv w b i) [2, 3, 4, 5, 6] rfl ?_
  exact kk _ _ _ (by dsimp only [zrx, zr]; omega) (by dsimp only [zrx, zr]; omega)
theorem lc_isBlocked_T (hN : 396 ≤ N) (hC : lw_C X w b L xs) (hs : lw_sc L xs i q) (hk : k + 12 ≤ 601024) (hn : n + 1000 ≤ 7293033) {v : Int32} {b9 : Int32} (hf : f_X8_isBlocked σ (q 1) = some (.inr v)) (hv8 : ¬ v = 0) (hg : g_X9_isBlocked ρ (q 1) = some (b9, ρ')) (ht : md_thrown ρ' = 0) (hb9 : ¬ b9 = 0) (kk : lw_N X w Q b i N h0 k n σ ρ') : zZ X w Q k n false N (gW w h0 σ ρ u) 1517 (lw_lv w b i) [] := by
  obtain ⟨C, hX, hb, hw⟩ := hC
  have hv : (1 : Int64) = 1 := rfl
  refine z_aload_n (pc' := 1518) C 3 dL_law_1517 rfl rfl rfl ?_
  refine z_aload_n (pc' := 1519) C 4 dL_law_1518 rfl rfl rfl ?_
  refine z_iload (pc' := 1521) C 0 dL_law_1519 rfl rfl ?_
  refine z_iconst (pc' := 1522) C dL_law_1521 zk_iconst_1 rfl ?_
  refine z_iadd (pc' := 1523) C dL_law_1522 rfl ?_
  refine z_sld (pc' := 1524) C hX hb hw (v := q 1) (hs 1 (by decide)) dL_law_1523 rfl ?_
  refine z_aload_n (pc' := 1525) C 1 dL_law_1524 rfl rfl rfl ?_
  refine z_callSW (pc' := 1528) (m := 3) (st := []) (h' := gW w h0 σ ρ (vp_updL u 0 (1))) C (zMw_eq gW_o (c_L_isBlocked_T (a := 0) (c0 := 395) (N := N) (by omega) (by omega) (zc_w (a := 389) (o := 6) (by omega) rfl) hf hv8)) zw_912 zw_0 (by decide +kernel) zw_910 zw_911 rfl rfl rfl rfl (room_ok hk hn (by dsimp only [zrx, zr]; omega) (by dsimp only [zrx, zr]; omega)) dL_law_1525 rfl ?_
  refine z_istore (pc' := 1530) C _ dL_law_1528 rfl rfl rfl ?_
  refine z_aload_n (pc' := 1531) C 3 dL_law_1530 rfl rfl rfl ?_
  refine z_aload_n (pc' := 1532) C 5 dL_law_1531 rfl rfl rfl ?_
  refine z_iload (pc' := 1534) C 1 dL_law_1532 rfl rfl ?_
  refine z_iconst (pc' := 1535) C dL_law_1534 zk_iconst_1 rfl ?_
  refine z_iadd (pc' := 1536) C dL_law_1535 rfl ?_
  refine z_sld (pc' := 1537) C hX hb hw (v := q 1) (hs 1 (by decide)) dL_law_1536 rfl ?_
  refine z_callV (pc' := 1540) (st := []) (h' := gW w h0 σ ρ' (vp_updL u 0 (1))) C (d_X9_isBlocked hN  hg) zy_X9_isBlocked zw_1541 zw_1542 zw_1543 (ci := 9) rfl (gW_c (k := 0) (by omega) rfl) rfl rfl rfl rfl (room_ok hk hn (by dsimp only [zrx, zr]; omega) (by dsimp only [zrx, zr]; omega)) dL_law_1537 rfl ?_
  refine z_istore (pc' := 1542) C _ dL_law_1540 rfl rfl rfl ?_
  refine z_aload_n (pc' := 1543) C 4 dL_law_1542 rfl rfl rfl ?_
  refine z_callV (pc' := 1546) (st := []) (h' := gW w h0 σ ρ' (vp_updL u 0 (1))) C (d_X9_thrown hN (v := md_thrown ρ') rfl) zy_X9_thrown zw_1236 zw_1237 zw_1238 (ci := 9) rfl (gW_c (k := 0) (by omega) rfl) rfl rfl rfl rfl (room_ok hk hn (by dsimp only [zrx, zr]; omega) (by dsimp only [zrx, zr]; omega)) dL_law_1543 rfl ?_
  refine z_iload (pc' := 1548) C 1 dL_law_1546 rfl rfl ?_
  refine z_icmp_eq (pc' := 1551) C 1553 (if_pos ht : (if _ = _ then some () else (none : Option Unit)) = some ()) dL_law_1548 rfl rfl (fun _ _ => ?_) (fun q _ => absurd ht q)
  refine z_iload (pc' := 1555) C 1 dL_law_1553 rfl rfl ?_
  refine z_if_ne (pc' := 1558) C 1577 (if_pos rfl : (if (0 : Int32) = 0 then some () else (none : Option Unit)) = some ()) dL_law_1555 rfl rfl (fun q _ => absurd rfl q) (fun _ _ => ?_)
  refine z_aload_n (pc' := 1559) C 3 dL_law_1558 rfl rfl rfl ?_
  refine z_iconst (pc' := 1560) C dL_law_1559 zk_iconst_0 rfl ?_
  refine z_lald (pc' := 1561) C (K := fun v => some v) rfl (gW_c (k := 6) (by omega) rfl) dL_law_1560 rfl (fun v0 hv0 => ?_)
  cases hv0
  refine z_iload (pc' := 1563) C 0 dL_law_1561 rfl rfl ?_
  refine z_if_eq (pc' := 1566) C 1570 (if_neg hb9 : (if b9 = 0 then (none : Option Unit) else some ()) = some ()) dL_law_1563 rfl rfl (fun q _ => absurd q hb9) (fun _ _ => ?_)
  refine z_lconst (pc' := 1567) C dL_law_1566 zl_1 rfl ?_
  refine z_goto C 1571 dL_law_1567 rfl ?_
  refine z_lcmp_eq (pc' := 1575) (pc1 := 1572) C 1577 (if_pos hv : (if _ = _ then some () else (none : Option Unit)) = some ()) dL_law_1571 rfl dL_law_1572 rfl rfl (fun _ _ => ?_) (fun q _ => absurd hv q)
  refine z_goto C 2707 dL_law_1577 rfl ?_
  refine z_pick (lv' := lw_lv w b i) [2, 3, 4, 5, 6] rfl ?_
  exact kk _ _ _ (by dsimp only [zrx, zr]; omega) (by dsimp only [zrx, zr]; omega)
theorem lc_isBlocked_F (hN : 396 ≤ N) (hC : lw_C X w b L xs) (hs : lw_sc L xs i q) (hk : k + 12 ≤ 601024) (hn : n + 1000 ≤ 7293033) {v : Int32} {b9 : Int32} (hf : f_X8_isBlocked σ (q 1) = some (.inr v)) (hv8 : v = 0) (hg : g_X9_isBlocked ρ (q 1) = some (b9, ρ')) (ht : md_thrown ρ' = 0) (hb9 : b9 = 0) (kk : lw_N X w Q b i N h0 k n σ ρ') : zZ X w Q k n false N (gW w h0 σ ρ u) 1517 (lw_lv w b i) [] := by
  obtain ⟨C, hX, hb, hw⟩ := hC
  have hv : (0 : Int64) = 0 := rfl
  refine z_aload_n (pc' := 1518) C 3 dL_law_1517 rfl rfl rfl ?_
  refine z_aload_n (pc' := 1519) C 4 dL_law_1518 rfl rfl rfl ?_
  refine z_iload (pc' := 1521) C 0 dL_law_1519 rfl rfl ?_
  refine z_iconst (pc' := 1522) C dL_law_1521 zk_iconst_1 rfl ?_
  refine z_iadd (pc' := 1523) C dL_law_1522 rfl ?_
  refine z_sld (pc' := 1524) C hX hb hw (v := q 1) (hs 1 (by decide)) dL_law_1523 rfl ?_
  refine z_aload_n (pc' := 1525) C 1 dL_law_1524 rfl rfl rfl ?_
  refine z_callSW (pc' := 1528) (m := 3) (st := []) (h' := gW w h0 σ ρ (vp_updL u 0 (0))) C (zMw_eq gW_o (c_L_isBlocked_F (a := 0) (c0 := 395) (N := N) (by omega) (by omega) (zc_w (a := 389) (o := 6) (by omega) rfl) hf hv8)) zw_912 zw_0 (by decide +kernel) zw_910 zw_911 rfl rfl rfl rfl (room_ok hk hn (by dsimp only [zrx, zr]; omega) (by dsimp only [zrx, zr]; omega)) dL_law_1525 rfl ?_
  refine z_istore (pc' := 1530) C _ dL_law_1528 rfl rfl rfl ?_
  refine z_aload_n (pc' := 1531) C 3 dL_law_1530 rfl rfl rfl ?_
  refine z_aload_n (pc' := 1532) C 5 dL_law_1531 rfl rfl rfl ?_
  refine z_iload (pc' := 1534) C 1 dL_law_1532 rfl rfl ?_
  refine z_iconst (pc' := 1535) C dL_law_1534 zk_iconst_1 rfl ?_
  refine z_iadd (pc' := 1536) C dL_law_1535 rfl ?_
  refine z_sld (pc' := 1537) C hX hb hw (v := q 1) (hs 1 (by decide)) dL_law_1536 rfl ?_
  refine z_callV (pc' := 1540) (st := []) (h' := gW w h0 σ ρ' (vp_updL u 0 (0))) C (d_X9_isBlocked hN  hg) zy_X9_isBlocked zw_1541 zw_1542 zw_1543 (ci := 9) rfl (gW_c (k := 0) (by omega) rfl) rfl rfl rfl rfl (room_ok hk hn (by dsimp only [zrx, zr]; omega) (by dsimp only [zrx, zr]; omega)) dL_law_1537 rfl ?_
  refine z_istore (pc' := 1542) C _ dL_law_1540 rfl rfl rfl ?_
  refine z_aload_n (pc' := 1543) C 4 dL_law_1542 rfl rfl rfl ?_
  refine z_callV (pc' := 1546) (st := []) (h' := gW w h0 σ ρ' (vp_updL u 0 (0))) C (d_X9_thrown hN (v := md_thrown ρ') rfl) zy_X9_thrown zw_1236 zw_1237 zw_1238 (ci := 9) rfl (gW_c (k := 0) (by omega) rfl) rfl rfl rfl rfl (room_ok hk hn (by dsimp only [zrx, zr]; omega) (by dsimp only [zrx, zr]; omega)) dL_law_1543 rfl ?_
  refine z_iload (pc' := 1548) C 1 dL_law_1546 rfl rfl ?_
  refine z_icmp_eq (pc' := 1551) C 1553 (if_pos ht : (if _ = _ then some () else (none : Option Unit)) = some ()) dL_law_1548 rfl rfl (fun _ _ => ?_) (fun q _ => absurd ht q)
  refine z_iload (pc' := 1555) C 1 dL_law_1553 rfl rfl ?_
  refine z_if_ne (pc' := 1558) C 1577 (if_pos rfl : (if (0 : Int32) = 0 then some () else (none : Option Unit)) = some ()) dL_law_1555 rfl rfl (fun q _ => absurd rfl q) (fun _ _ => ?_)
  refine z_aload_n (pc' := 1559) C 3 dL_law_1558 rfl rfl rfl ?_
  refine z_iconst (pc' := 1560) C dL_law_1559 zk_iconst_0 rfl ?_
  refine z_lald (pc' := 1561) C (K := fun v => some v) rfl (gW_c (k := 6) (by omega) rfl) dL_law_1560 rfl (fun v0 hv0 => ?_)
  cases hv0
  refine z_iload (pc' := 1563) C 0 dL_law_1561 rfl rfl ?_
  refine z_if_eq (pc' := 1566) C 1570 (if_pos hb9 : (if b9 = 0 then some () else (none : Option Unit)) = some ()) dL_law_1563 rfl rfl (fun _ _ => ?_) (fun q _ => absurd hb9 q)
  refine z_lconst (pc' := 1571) C dL_law_1570 zl_0 rfl ?_
  refine z_lcmp_eq (pc' := 1575) (pc1 := 1572) C 1577 (if_pos hv : (if _ = _ then some () else (none : Option Unit)) = some ()) dL_law_1571 rfl dL_law_1572 rfl rfl (fun _ _ => ?_) (fun q _ => absurd hv q)
  refine z_goto C 2707 dL_law_1577 rfl ?_
  refine z_pick (lv' := lw_lv w b i) [2, 3, 4, 5, 6] rfl ?_
  exact kk _ _ _ (by dsimp only [zrx, zr]; omega) (by dsimp only [zrx, zr]; omega)
theorem lc_isBlocked_x1 (hN : 396 ≤ N) (hC : lw_C X w b L xs) (hs : lw_sc L xs i q) (hk : k + 12 ≤ 601024) (hn : n + 1000 ≤ 7293033) {b9 : Int32} (hf : f_X8_isBlocked σ (q 1) = some (.inl "java/lang/IndexOutOfBoundsException")) (hg : g_X9_isBlocked ρ (q 1) = some (b9, ρ')) (ht : md_thrown ρ' = 1) (kk : lw_N X w Q b i N h0 k n σ ρ') : zZ X w Q k n false N (gW w h0 σ ρ u) 1517 (lw_lv w b i) [] := by
  obtain ⟨C, hX, hb, hw⟩ := hC
  refine z_aload_n (pc' := 1518) C 3 dL_law_1517 rfl rfl rfl ?_
  refine z_aload_n (pc' := 1519) C 4 dL_law_1518 rfl rfl rfl ?_
  refine z_iload (pc' := 1521) C 0 dL_law_1519 rfl rfl ?_
  refine z_iconst (pc' := 1522) C dL_law_1521 zk_iconst_1 rfl ?_
  refine z_iadd (pc' := 1523) C dL_law_1522 rfl ?_
  refine z_sld (pc' := 1524) C hX hb hw (v := q 1) (hs 1 (by decide)) dL_law_1523 rfl ?_
  refine z_aload_n (pc' := 1525) C 1 dL_law_1524 rfl rfl rfl ?_
  refine z_callSW (pc' := 1528) (m := 3) (st := []) (h' := gW w h0 σ ρ u) C (c_L_isBlocked_1 (a := 0) (c0 := 395) (N := N) (by omega) (by omega) (zc_w (a := 389) (o := 6) (by omega) rfl) hf) zw_912 zw_0 (by decide +kernel) zw_910 zw_911 rfl rfl rfl rfl (room_ok hk hn (by dsimp only [zrx, zr]; omega) (by dsimp only [zrx, zr]; omega)) dL_law_1525 rfl ?_
  refine z_istore (pc' := 1530) C _ dL_law_1528 rfl rfl rfl ?_
  refine z_aload_n (pc' := 1531) C 3 dL_law_1530 rfl rfl rfl ?_
  refine z_aload_n (pc' := 1532) C 5 dL_law_1531 rfl rfl rfl ?_
  refine z_iload (pc' := 1534) C 1 dL_law_1532 rfl rfl ?_
  refine z_iconst (pc' := 1535) C dL_law_1534 zk_iconst_1 rfl ?_
  refine z_iadd (pc' := 1536) C dL_law_1535 rfl ?_
  refine z_sld (pc' := 1537) C hX hb hw (v := q 1) (hs 1 (by decide)) dL_law_1536 rfl ?_
  refine z_callV (pc' := 1540) (st := []) (h' := gW w h0 σ ρ' u) C (d_X9_isBlocked hN  hg) zy_X9_isBlocked zw_1541 zw_1542 zw_1543 (ci := 9) rfl (gW_c (k := 0) (by omega) rfl) rfl rfl rfl rfl (room_ok hk hn (by dsimp only [zrx, zr]; omega) (by dsimp only [zrx, zr]; omega)) dL_law_1537 rfl ?_
  refine z_istore (pc' := 1542) C _ dL_law_1540 rfl rfl rfl ?_
  refine z_aload_n (pc' := 1543) C 4 dL_law_1542 rfl rfl rfl ?_
  refine z_callV (pc' := 1546) (st := []) (h' := gW w h0 σ ρ' u) C (d_X9_thrown hN (v := md_thrown ρ') rfl) zy_X9_thrown zw_1236 zw_1237 zw_1238 (ci := 9) rfl (gW_c (k := 0) (by omega) rfl) rfl rfl rfl rfl (room_ok hk hn (by dsimp only [zrx, zr]; omega) (by dsimp only [zrx, zr]; omega)) dL_law_1543 rfl ?_
  refine z_iload (pc' := 1548) C 1 dL_law_1546 rfl rfl ?_
  refine z_icmp_eq (pc' := 1551) C 1553 (if_pos ht : (if _ = _ then some () else (none : Option Unit)) = some ()) dL_law_1548 rfl rfl (fun _ _ => ?_) (fun q _ => absurd ht q)
  refine z_iload (pc' := 1555) C 1 dL_law_1553 rfl rfl ?_
  refine z_if_ne (pc' := 1558) C 1577 (if_neg (by decide) : (if (1 : Int32) = 0 then (none : Option Unit) else some ()) = some ()) dL_law_1555 rfl rfl (fun _ _ => ?_) (fun q _ => absurd q (by decide))
  refine z_goto C 2707 dL_law_1577 rfl ?_
  refine z_pick (lv' := lw_lv w b i) [2, 3, 4, 5, 6] rfl ?_
  exact kk _ _ _ (by dsimp only [zrx, zr]; omega) (by dsimp only [zrx, zr]; omega)
theorem lc_dueBetween (hN : 396 ≤ N) (hC : lw_C X w b L xs) (hs : lw_sc L xs i q) (hk : k + 12 ≤ 601024) (hn : n + 1000 ≤ 7293033) {v b9 : Int64} (hf : f_X8_dueBetween σ (q 1) (q 2) = some v) (hg : g_X9_dueBetween ρ (q 1) (q 2) = some (b9, ρ')) (hv : v = b9) (kk : lw_N X w Q b i N h0 k n σ ρ') : zZ X w Q k n false N (gW w h0 σ ρ u) 1580 (lw_lv w b i) [] := by
  obtain ⟨C, hX, hb, hw⟩ := hC
  refine z_aload_n (pc' := 1581) C 3 dL_law_1580 rfl rfl rfl ?_
  refine z_aload_n (pc' := 1582) C 4 dL_law_1581 rfl rfl rfl ?_
  refine z_iload (pc' := 1584) C 0 dL_law_1582 rfl rfl ?_
  refine z_iconst (pc' := 1585) C dL_law_1584 zk_iconst_1 rfl ?_
  refine z_iadd (pc' := 1586) C dL_law_1585 rfl ?_
  refine z_sld (pc' := 1587) C hX hb hw (v := q 1) (hs 1 (by decide)) dL_law_1586 rfl ?_
  refine z_aload_n (pc' := 1588) C 4 dL_law_1587 rfl rfl rfl ?_
  refine z_iload (pc' := 1590) C 0 dL_law_1588 rfl rfl ?_
  refine z_iconst (pc' := 1591) C dL_law_1590 zk_iconst_2 rfl ?_
  refine z_iadd (pc' := 1592) C dL_law_1591 rfl ?_
  refine z_sld (pc' := 1593) C hX hb hw (v := q 2) (hs 2 (by decide)) dL_law_1592 rfl ?_
  refine z_callV (pc' := 1596) (st := []) (h' := gW w h0 σ ρ u) C (c_X8_dueBetween (a := 0) (N := N) (h := zu h0 389 (mL w ρ u)) (σ := σ) (by omega) hf) zy_X8_dueBetween zw_361 zw_362 zw_363 (ci := 8) rfl (lg_0 (a := 0) (by omega)) rfl rfl rfl rfl (room_ok hk hn (by dsimp only [zrx, zr]; omega) (by dsimp only [zrx, zr]; omega)) dL_law_1593 rfl ?_
  refine z_aload_n (pc' := 1597) C 2 dL_law_1596 rfl rfl rfl ?_
  refine z_aload_n (pc' := 1598) C 4 dL_law_1597 rfl rfl rfl ?_
  refine z_iload (pc' := 1600) C 0 dL_law_1598 rfl rfl ?_
  refine z_iconst (pc' := 1601) C dL_law_1600 zk_iconst_1 rfl ?_
  refine z_iadd (pc' := 1602) C dL_law_1601 rfl ?_
  refine z_sld (pc' := 1603) C hX hb hw (v := q 1) (hs 1 (by decide)) dL_law_1602 rfl ?_
  refine z_aload_n (pc' := 1604) C 4 dL_law_1603 rfl rfl rfl ?_
  refine z_iload (pc' := 1606) C 0 dL_law_1604 rfl rfl ?_
  refine z_iconst (pc' := 1607) C dL_law_1606 zk_iconst_2 rfl ?_
  refine z_iadd (pc' := 1608) C dL_law_1607 rfl ?_
  refine z_sld (pc' := 1609) C hX hb hw (v := q 2) (hs 2 (by decide)) dL_law_1608 rfl ?_
  refine z_callV (pc' := 1612) (st := [.long v]) (h' := gW w h0 σ ρ' u) C (d_X9_dueBetween hN  hg) zy_X9_dueBetween zw_1549 zw_1550 zw_1551 (ci := 9) rfl (gW_c (k := 0) (by omega) rfl) rfl rfl rfl rfl (room_ok hk hn (by dsimp only [zrx, zr]; omega) (by dsimp only [zrx, zr]; omega)) dL_law_1609 rfl ?_
  refine z_lcmp_eq (pc' := 1616) (pc1 := 1613) C 2707 (if_pos hv : (if _ = _ then some () else (none : Option Unit)) = some ()) dL_law_1612 rfl dL_law_1613 rfl rfl (fun _ _ => ?_) (fun q _ => absurd hv q)
  refine z_pick (lv' := lw_lv w b i) [0, 1, 2, 3, 4] rfl ?_
  exact kk _ _ _ (by dsimp only [zrx, zr]; omega) (by dsimp only [zrx, zr]; omega)
theorem lc_settleDays (hN : 396 ≤ N) (hC : lw_C X w b L xs) (hs : lw_sc L xs i q) (hk : k + 12 ≤ 601024) (hn : n + 1000 ≤ 7293033) {v : Int32} {b9 : Int32} (hf : f_X8_settleDays σ (q 1) (q 2) = some (.inr (v, σ'))) (hg : g_X9_settleDays ρ (q 1) (q 2) = some (b9, ρ')) (ht : md_thrown ρ' = 0) (hv : v.toInt64 = b9.toInt64) (kk : lw_N X w Q b i N h0 k n σ' ρ') : zZ X w Q k n false N (gW w h0 σ ρ u) 1618 (lw_lv w b i) [] := by
  obtain ⟨C, hX, hb, hw⟩ := hC
  refine z_aload_n (pc' := 1619) C 3 dL_law_1618 rfl rfl rfl ?_
  refine z_aload_n (pc' := 1620) C 4 dL_law_1619 rfl rfl rfl ?_
  refine z_iload (pc' := 1622) C 0 dL_law_1620 rfl rfl ?_
  refine z_iconst (pc' := 1623) C dL_law_1622 zk_iconst_1 rfl ?_
  refine z_iadd (pc' := 1624) C dL_law_1623 rfl ?_
  refine z_sld (pc' := 1625) C hX hb hw (v := q 1) (hs 1 (by decide)) dL_law_1624 rfl ?_
  refine z_aload_n (pc' := 1626) C 4 dL_law_1625 rfl rfl rfl ?_
  refine z_iload (pc' := 1628) C 0 dL_law_1626 rfl rfl ?_
  refine z_iconst (pc' := 1629) C dL_law_1628 zk_iconst_2 rfl ?_
  refine z_iadd (pc' := 1630) C dL_law_1629 rfl ?_
  refine z_sld (pc' := 1631) C hX hb hw (v := q 2) (hs 2 (by decide)) dL_law_1630 rfl ?_
  refine z_aload_n (pc' := 1632) C 1 dL_law_1631 rfl rfl rfl ?_
  refine z_callSW (pc' := 1635) (m := 4) (st := []) (h' := gW w h0 σ' ρ (vp_updL u 0 (v.toInt64))) C (zMw_eq gW_o (c_L_settleDays (a := 0) (c0 := 395) (N := N) (by omega) (by omega) (zc_w (a := 389) (o := 6) (by omega) rfl) hf)) zw_927 zw_0 (by decide +kernel) zw_925 zw_926 rfl rfl rfl rfl (room_ok hk hn (by dsimp only [zrx, zr]; omega) (by dsimp only [zrx, zr]; omega)) dL_law_1632 rfl ?_
  refine z_istore (pc' := 1637) C _ dL_law_1635 rfl rfl rfl ?_
  refine z_aload_n (pc' := 1638) C 3 dL_law_1637 rfl rfl rfl ?_
  refine z_aload_n (pc' := 1639) C 5 dL_law_1638 rfl rfl rfl ?_
  refine z_iload (pc' := 1641) C 1 dL_law_1639 rfl rfl ?_
  refine z_iconst (pc' := 1642) C dL_law_1641 zk_iconst_1 rfl ?_
  refine z_iadd (pc' := 1643) C dL_law_1642 rfl ?_
  refine z_sld (pc' := 1644) C hX hb hw (v := q 1) (hs 1 (by decide)) dL_law_1643 rfl ?_
  refine z_aload_n (pc' := 1645) C 5 dL_law_1644 rfl rfl rfl ?_
  refine z_iload (pc' := 1647) C 1 dL_law_1645 rfl rfl ?_
  refine z_iconst (pc' := 1648) C dL_law_1647 zk_iconst_2 rfl ?_
  refine z_iadd (pc' := 1649) C dL_law_1648 rfl ?_
  refine z_sld (pc' := 1650) C hX hb hw (v := q 2) (hs 2 (by decide)) dL_law_1649 rfl ?_
  refine z_callV (pc' := 1653) (st := []) (h' := gW w h0 σ' ρ' (vp_updL u 0 (v.toInt64))) C (d_X9_settleDays hN  hg) zy_X9_settleDays zw_1553 zw_1554 zw_1555 (ci := 9) rfl (gW_c (k := 0) (by omega) rfl) rfl rfl rfl rfl (room_ok hk hn (by dsimp only [zrx, zr]; omega) (by dsimp only [zrx, zr]; omega)) dL_law_1650 rfl ?_
  refine z_istore (pc' := 1655) C _ dL_law_1653 rfl rfl rfl ?_
  refine z_aload_n (pc' := 1656) C 4 dL_law_1655 rfl rfl rfl ?_
  refine z_callV (pc' := 1659) (st := []) (h' := gW w h0 σ' ρ' (vp_updL u 0 (v.toInt64))) C (d_X9_thrown hN (v := md_thrown ρ') rfl) zy_X9_thrown zw_1236 zw_1237 zw_1238 (ci := 9) rfl (gW_c (k := 0) (by omega) rfl) rfl rfl rfl rfl (room_ok hk hn (by dsimp only [zrx, zr]; omega) (by dsimp only [zrx, zr]; omega)) dL_law_1656 rfl ?_
  refine z_iload (pc' := 1661) C 1 dL_law_1659 rfl rfl ?_
  refine z_icmp_eq (pc' := 1664) C 1666 (if_pos ht : (if _ = _ then some () else (none : Option Unit)) = some ()) dL_law_1661 rfl rfl (fun _ _ => ?_) (fun q _ => absurd ht q)
  refine z_iload (pc' := 1668) C 1 dL_law_1666 rfl rfl ?_
  refine z_if_ne (pc' := 1671) C 1683 (if_pos rfl : (if (0 : Int32) = 0 then some () else (none : Option Unit)) = some ()) dL_law_1668 rfl rfl (fun q _ => absurd rfl q) (fun _ _ => ?_)
  refine z_aload_n (pc' := 1672) C 3 dL_law_1671 rfl rfl rfl ?_
  refine z_iconst (pc' := 1673) C dL_law_1672 zk_iconst_0 rfl ?_
  refine z_lald (pc' := 1674) C (K := fun v => some v) rfl (gW_c (k := 6) (by omega) rfl) dL_law_1673 rfl (fun v0 hv0 => ?_)
  cases hv0
  refine z_iload (pc' := 1676) C 0 dL_law_1674 rfl rfl ?_
  refine z_i2l (pc' := 1677) C dL_law_1676 rfl ?_
  refine z_lcmp_eq (pc' := 1681) (pc1 := 1678) C 1683 (if_pos hv : (if _ = _ then some () else (none : Option Unit)) = some ()) dL_law_1677 rfl dL_law_1678 rfl rfl (fun _ _ => ?_) (fun q _ => absurd hv q)
  refine z_goto C 2707 dL_law_1683 rfl ?_
  refine z_pick (lv' := lw_lv w b i) [2, 3, 4, 5, 6] rfl ?_
  exact kk _ _ _ (by dsimp only [zrx, zr]; omega) (by dsimp only [zrx, zr]; omega)
theorem lc_settleDays_x1 (hN : 396 ≤ N) (hC : lw_C X w b L xs) (hs : lw_sc L xs i q) (hk : k + 12 ≤ 601024) (hn : n + 1000 ≤ 7293033) {b9 : Int32} (hf : f_X8_settleDays σ (q 1) (q 2) = some (.inl ("java/lang/IndexOutOfBoundsException", σ'))) (hg : g_X9_settleDays ρ (q 1) (q 2) = some (b9, ρ')) (ht : md_thrown ρ' = 1) (kk : lw_N X w Q b i N h0 k n σ' ρ') : zZ X w Q k n false N (gW w h0 σ ρ u) 1618 (lw_lv w b i) [] := by
  obtain ⟨C, hX, hb, hw⟩ := hC
  refine z_aload_n (pc' := 1619) C 3 dL_law_1618 rfl rfl rfl ?_
  refine z_aload_n (pc' := 1620) C 4 dL_law_1619 rfl rfl rfl ?_
  refine z_iload (pc' := 1622) C 0 dL_law_1620 rfl rfl ?_
  refine z_iconst (pc' := 1623) C dL_law_1622 zk_iconst_1 rfl ?_
  refine z_iadd (pc' := 1624) C dL_law_1623 rfl ?_
  refine z_sld (pc' := 1625) C hX hb hw (v := q 1) (hs 1 (by decide)) dL_law_1624 rfl ?_
  refine z_aload_n (pc' := 1626) C 4 dL_law_1625 rfl rfl rfl ?_
  refine z_iload (pc' := 1628) C 0 dL_law_1626 rfl rfl ?_
  refine z_iconst (pc' := 1629) C dL_law_1628 zk_iconst_2 rfl ?_
  refine z_iadd (pc' := 1630) C dL_law_1629 rfl ?_
  refine z_sld (pc' := 1631) C hX hb hw (v := q 2) (hs 2 (by decide)) dL_law_1630 rfl ?_
  refine z_aload_n (pc' := 1632) C 1 dL_law_1631 rfl rfl rfl ?_
  refine z_callSW (pc' := 1635) (m := 4) (st := []) (h' := gW w h0 σ' ρ u) C (c_L_settleDays_1 (a := 0) (c0 := 395) (N := N) (by omega) (by omega) (zc_w (a := 389) (o := 6) (by omega) rfl) hf) zw_927 zw_0 (by decide +kernel) zw_925 zw_926 rfl rfl rfl rfl (room_ok hk hn (by dsimp only [zrx, zr]; omega) (by dsimp only [zrx, zr]; omega)) dL_law_1632 rfl ?_
  refine z_istore (pc' := 1637) C _ dL_law_1635 rfl rfl rfl ?_
  refine z_aload_n (pc' := 1638) C 3 dL_law_1637 rfl rfl rfl ?_
  refine z_aload_n (pc' := 1639) C 5 dL_law_1638 rfl rfl rfl ?_
  refine z_iload (pc' := 1641) C 1 dL_law_1639 rfl rfl ?_
  refine z_iconst (pc' := 1642) C dL_law_1641 zk_iconst_1 rfl ?_
  refine z_iadd (pc' := 1643) C dL_law_1642 rfl ?_
  refine z_sld (pc' := 1644) C hX hb hw (v := q 1) (hs 1 (by decide)) dL_law_1643 rfl ?_
  refine z_aload_n (pc' := 1645) C 5 dL_law_1644 rfl rfl rfl ?_
  refine z_iload (pc' := 1647) C 1 dL_law_1645 rfl rfl ?_
  refine z_iconst (pc' := 1648) C dL_law_1647 zk_iconst_2 rfl ?_
  refine z_iadd (pc' := 1649) C dL_law_1648 rfl ?_
  refine z_sld (pc' := 1650) C hX hb hw (v := q 2) (hs 2 (by decide)) dL_law_1649 rfl ?_
  refine z_callV (pc' := 1653) (st := []) (h' := gW w h0 σ' ρ' u) C (d_X9_settleDays hN  hg) zy_X9_settleDays zw_1553 zw_1554 zw_1555 (ci := 9) rfl (gW_c (k := 0) (by omega) rfl) rfl rfl rfl rfl (room_ok hk hn (by dsimp only [zrx, zr]; omega) (by dsimp only [zrx, zr]; omega)) dL_law_1650 rfl ?_
  refine z_istore (pc' := 1655) C _ dL_law_1653 rfl rfl rfl ?_
  refine z_aload_n (pc' := 1656) C 4 dL_law_1655 rfl rfl rfl ?_
  refine z_callV (pc' := 1659) (st := []) (h' := gW w h0 σ' ρ' u) C (d_X9_thrown hN (v := md_thrown ρ') rfl) zy_X9_thrown zw_1236 zw_1237 zw_1238 (ci := 9) rfl (gW_c (k := 0) (by omega) rfl) rfl rfl rfl rfl (room_ok hk hn (by dsimp only [zrx, zr]; omega) (by dsimp only [zrx, zr]; omega)) dL_law_1656 rfl ?_
  refine z_iload (pc' := 1661) C 1 dL_law_1659 rfl rfl ?_
  refine z_icmp_eq (pc' := 1664) C 1666 (if_pos ht : (if _ = _ then some () else (none : Option Unit)) = some ()) dL_law_1661 rfl rfl (fun _ _ => ?_) (fun q _ => absurd ht q)
  refine z_iload (pc' := 1668) C 1 dL_law_1666 rfl rfl ?_
  refine z_if_ne (pc' := 1671) C 1683 (if_neg (by decide) : (if (1 : Int32) = 0 then (none : Option Unit) else some ()) = some ()) dL_law_1668 rfl rfl (fun _ _ => ?_) (fun q _ => absurd q (by decide))
  refine z_goto C 2707 dL_law_1683 rfl ?_
  refine z_pick (lv' := lw_lv w b i) [2, 3, 4, 5, 6] rfl ?_
  exact kk _ _ _ (by dsimp only [zrx, zr]; omega) (by dsimp only [zrx, zr]; omega)
theorem lc_settleDays_x2 (hN : 396 ≤ N) (hC : lw_C X w b L xs) (hs : lw_sc L xs i q) (hk : k + 12 ≤ 601024) (hn : n + 1000 ≤ 7293033) {b9 : Int32} (hf : f_X8_settleDays σ (q 1) (q 2) = some (.inl ("java/lang/IllegalArgumentException", σ'))) (hg : g_X9_settleDays ρ (q 1) (q 2) = some (b9, ρ')) (ht : md_thrown ρ' = 2) (kk : lw_N X w Q b i N h0 k n σ' ρ') : zZ X w Q k n false N (gW w h0 σ ρ u) 1618 (lw_lv w b i) [] := by
  obtain ⟨C, hX, hb, hw⟩ := hC
  refine z_aload_n (pc' := 1619) C 3 dL_law_1618 rfl rfl rfl ?_
  refine z_aload_n (pc' := 1620) C 4 dL_law_1619 rfl rfl rfl ?_
  refine z_iload (pc' := 1622) C 0 dL_law_1620 rfl rfl ?_
  refine z_iconst (pc' := 1623) C dL_law_1622 zk_iconst_1 rfl ?_
  refine z_iadd (pc' := 1624) C dL_law_1623 rfl ?_
  refine z_sld (pc' := 1625) C hX hb hw (v := q 1) (hs 1 (by decide)) dL_law_1624 rfl ?_
  refine z_aload_n (pc' := 1626) C 4 dL_law_1625 rfl rfl rfl ?_
  refine z_iload (pc' := 1628) C 0 dL_law_1626 rfl rfl ?_
  refine z_iconst (pc' := 1629) C dL_law_1628 zk_iconst_2 rfl ?_
  refine z_iadd (pc' := 1630) C dL_law_1629 rfl ?_
  refine z_sld (pc' := 1631) C hX hb hw (v := q 2) (hs 2 (by decide)) dL_law_1630 rfl ?_
  refine z_aload_n (pc' := 1632) C 1 dL_law_1631 rfl rfl rfl ?_
  refine z_callSW (pc' := 1635) (m := 4) (st := []) (h' := gW w h0 σ' ρ u) C (c_L_settleDays_2 (a := 0) (c0 := 395) (N := N) (by omega) (by omega) (zc_w (a := 389) (o := 6) (by omega) rfl) hf) zw_927 zw_0 (by decide +kernel) zw_925 zw_926 rfl rfl rfl rfl (room_ok hk hn (by dsimp only [zrx, zr]; omega) (by dsimp only [zrx, zr]; omega)) dL_law_1632 rfl ?_
  refine z_istore (pc' := 1637) C _ dL_law_1635 rfl rfl rfl ?_
  refine z_aload_n (pc' := 1638) C 3 dL_law_1637 rfl rfl rfl ?_
  refine z_aload_n (pc' := 1639) C 5 dL_law_1638 rfl rfl rfl ?_
  refine z_iload (pc' := 1641) C 1 dL_law_1639 rfl rfl ?_
  refine z_iconst (pc' := 1642) C dL_law_1641 zk_iconst_1 rfl ?_
  refine z_iadd (pc' := 1643) C dL_law_1642 rfl ?_
  refine z_sld (pc' := 1644) C hX hb hw (v := q 1) (hs 1 (by decide)) dL_law_1643 rfl ?_
  refine z_aload_n (pc' := 1645) C 5 dL_law_1644 rfl rfl rfl ?_
  refine z_iload (pc' := 1647) C 1 dL_law_1645 rfl rfl ?_
  refine z_iconst (pc' := 1648) C dL_law_1647 zk_iconst_2 rfl ?_
  refine z_iadd (pc' := 1649) C dL_law_1648 rfl ?_
  refine z_sld (pc' := 1650) C hX hb hw (v := q 2) (hs 2 (by decide)) dL_law_1649 rfl ?_
  refine z_callV (pc' := 1653) (st := []) (h' := gW w h0 σ' ρ' u) C (d_X9_settleDays hN  hg) zy_X9_settleDays zw_1553 zw_1554 zw_1555 (ci := 9) rfl (gW_c (k := 0) (by omega) rfl) rfl rfl rfl rfl (room_ok hk hn (by dsimp only [zrx, zr]; omega) (by dsimp only [zrx, zr]; omega)) dL_law_1650 rfl ?_
  refine z_istore (pc' := 1655) C _ dL_law_1653 rfl rfl rfl ?_
  refine z_aload_n (pc' := 1656) C 4 dL_law_1655 rfl rfl rfl ?_
  refine z_callV (pc' := 1659) (st := []) (h' := gW w h0 σ' ρ' u) C (d_X9_thrown hN (v := md_thrown ρ') rfl) zy_X9_thrown zw_1236 zw_1237 zw_1238 (ci := 9) rfl (gW_c (k := 0) (by omega) rfl) rfl rfl rfl rfl (room_ok hk hn (by dsimp only [zrx, zr]; omega) (by dsimp only [zrx, zr]; omega)) dL_law_1656 rfl ?_
  refine z_iload (pc' := 1661) C 1 dL_law_1659 rfl rfl ?_
  refine z_icmp_eq (pc' := 1664) C 1666 (if_pos ht : (if _ = _ then some () else (none : Option Unit)) = some ()) dL_law_1661 rfl rfl (fun _ _ => ?_) (fun q _ => absurd ht q)
  refine z_iload (pc' := 1668) C 1 dL_law_1666 rfl rfl ?_
  refine z_if_ne (pc' := 1671) C 1683 (if_neg (by decide) : (if (2 : Int32) = 0 then (none : Option Unit) else some ()) = some ()) dL_law_1668 rfl rfl (fun _ _ => ?_) (fun q _ => absurd q (by decide))
  refine z_goto C 2707 dL_law_1683 rfl ?_
  refine z_pick (lv' := lw_lv w b i) [2, 3, 4, 5, 6] rfl ?_
  exact kk _ _ _ (by dsimp only [zrx, zr]; omega) (by dsimp only [zrx, zr]; omega)
theorem lc_variationCount (hN : 396 ≤ N) (hC : lw_C X w b L xs) (hs : lw_sc L xs i q) (hk : k + 12 ≤ 601024) (hn : n + 1000 ≤ 7293033) {v b9 : Int32} (hf : f_X8_variationCount σ  = some v) (hg : g_X9_variationCount ρ  = some (b9, ρ')) (hv : v = b9) (kk : lw_N X w Q b i N h0 k n σ ρ') : zZ X w Q k n false N (gW w h0 σ ρ u) 1686 (lw_lv w b i) [] := by
  obtain ⟨C, hX, hb, hw⟩ := hC
  refine z_aload_n (pc' := 1687) C 3 dL_law_1686 rfl rfl rfl ?_
  refine z_callV (pc' := 1690) (st := []) (h' := gW w h0 σ ρ u) C (c_X8_variationCount (a := 0) (N := N) (h := zu h0 389 (mL w ρ u)) (σ := σ) (by omega) hf) zy_X8_variationCount zw_369 zw_370 zw_371 (ci := 8) rfl (lg_0 (a := 0) (by omega)) rfl rfl rfl rfl (room_ok hk hn (by dsimp only [zrx, zr]; omega) (by dsimp only [zrx, zr]; omega)) dL_law_1687 rfl ?_
  refine z_aload_n (pc' := 1691) C 2 dL_law_1690 rfl rfl rfl ?_
  refine z_callV (pc' := 1694) (st := [.int v]) (h' := gW w h0 σ ρ' u) C (d_X9_variationCount hN  hg) zy_X9_variationCount zw_1574 zw_1575 zw_1576 (ci := 9) rfl (gW_c (k := 0) (by omega) rfl) rfl rfl rfl rfl (room_ok hk hn (by dsimp only [zrx, zr]; omega) (by dsimp only [zrx, zr]; omega)) dL_law_1691 rfl ?_
  refine z_icmp_eq (pc' := 1697) C 2707 (if_pos hv : (if _ = _ then some () else (none : Option Unit)) = some ()) dL_law_1694 rfl rfl (fun _ _ => ?_) (fun q _ => absurd hv q)
  refine z_pick (lv' := lw_lv w b i) [0, 1, 2, 3, 4] rfl ?_
  exact kk _ _ _ (by dsimp only [zrx, zr]; omega) (by dsimp only [zrx, zr]; omega)
theorem lc_isApproved_T (hN : 396 ≤ N) (hC : lw_C X w b L xs) (hs : lw_sc L xs i q) (hk : k + 12 ≤ 601024) (hn : n + 1000 ≤ 7293033) {v : Int32} {b9 : Int32} (hf : f_X8_isApproved σ (q 1) = some (.inr v)) (hv8 : ¬ v = 0) (hg : g_X9_isApproved ρ (q 1) = some (b9, ρ')) (ht : md_thrown ρ' = 0) (hb9 : ¬ b9 = 0) (kk : lw_N X w Q b i N h0 k n σ ρ') : zZ X w Q k n false N (gW w h0 σ ρ u) 1699 (lw_lv w b i) [] := by
  obtain ⟨C, hX, hb, hw⟩ := hC
  have hv : (1 : Int64) = 1 := rfl
  refine z_aload_n (pc' := 1700) C 3 dL_law_1699 rfl rfl rfl ?_
  refine z_aload_n (pc' := 1701) C 4 dL_law_1700 rfl rfl rfl ?_
  refine z_iload (pc' := 1703) C 0 dL_law_1701 rfl rfl ?_
  refine z_iconst (pc' := 1704) C dL_law_1703 zk_iconst_1 rfl ?_
  refine z_iadd (pc' := 1705) C dL_law_1704 rfl ?_
  refine z_sld (pc' := 1706) C hX hb hw (v := q 1) (hs 1 (by decide)) dL_law_1705 rfl ?_
  refine z_aload_n (pc' := 1707) C 1 dL_law_1706 rfl rfl rfl ?_
  refine z_callSW (pc' := 1710) (m := 3) (st := []) (h' := gW w h0 σ ρ (vp_updL u 0 (1))) C (zMw_eq gW_o (c_L_isApproved_T (a := 0) (c0 := 395) (N := N) (by omega) (by omega) (zc_w (a := 389) (o := 6) (by omega) rfl) hf hv8)) zw_968 zw_0 (by decide +kernel) zw_966 zw_967 rfl rfl rfl rfl (room_ok hk hn (by dsimp only [zrx, zr]; omega) (by dsimp only [zrx, zr]; omega)) dL_law_1707 rfl ?_
  refine z_istore (pc' := 1712) C _ dL_law_1710 rfl rfl rfl ?_
  refine z_aload_n (pc' := 1713) C 3 dL_law_1712 rfl rfl rfl ?_
  refine z_aload_n (pc' := 1714) C 5 dL_law_1713 rfl rfl rfl ?_
  refine z_iload (pc' := 1716) C 1 dL_law_1714 rfl rfl ?_
  refine z_iconst (pc' := 1717) C dL_law_1716 zk_iconst_1 rfl ?_
  refine z_iadd (pc' := 1718) C dL_law_1717 rfl ?_
  refine z_sld (pc' := 1719) C hX hb hw (v := q 1) (hs 1 (by decide)) dL_law_1718 rfl ?_
  refine z_callV (pc' := 1722) (st := []) (h' := gW w h0 σ ρ' (vp_updL u 0 (1))) C (d_X9_isApproved hN  hg) zy_X9_isApproved zw_1578 zw_1579 zw_1580 (ci := 9) rfl (gW_c (k := 0) (by omega) rfl) rfl rfl rfl rfl (room_ok hk hn (by dsimp only [zrx, zr]; omega) (by dsimp only [zrx, zr]; omega)) dL_law_1719 rfl ?_
  refine z_istore (pc' := 1724) C _ dL_law_1722 rfl rfl rfl ?_
  refine z_aload_n (pc' := 1725) C 4 dL_law_1724 rfl rfl rfl ?_
  refine z_callV (pc' := 1728) (st := []) (h' := gW w h0 σ ρ' (vp_updL u 0 (1))) C (d_X9_thrown hN (v := md_thrown ρ') rfl) zy_X9_thrown zw_1236 zw_1237 zw_1238 (ci := 9) rfl (gW_c (k := 0) (by omega) rfl) rfl rfl rfl rfl (room_ok hk hn (by dsimp only [zrx, zr]; omega) (by dsimp only [zrx, zr]; omega)) dL_law_1725 rfl ?_
  refine z_iload (pc' := 1730) C 1 dL_law_1728 rfl rfl ?_
  refine z_icmp_eq (pc' := 1733) C 1735 (if_pos ht : (if _ = _ then some () else (none : Option Unit)) = some ()) dL_law_1730 rfl rfl (fun _ _ => ?_) (fun q _ => absurd ht q)
  refine z_iload (pc' := 1737) C 1 dL_law_1735 rfl rfl ?_
  refine z_if_ne (pc' := 1740) C 1759 (if_pos rfl : (if (0 : Int32) = 0 then some () else (none : Option Unit)) = some ()) dL_law_1737 rfl rfl (fun q _ => absurd rfl q) (fun _ _ => ?_)
  refine z_aload_n (pc' := 1741) C 3 dL_law_1740 rfl rfl rfl ?_
  refine z_iconst (pc' := 1742) C dL_law_1741 zk_iconst_0 rfl ?_
  refine z_lald (pc' := 1743) C (K := fun v => some v) rfl (gW_c (k := 6) (by omega) rfl) dL_law_1742 rfl (fun v0 hv0 => ?_)
  cases hv0
  refine z_iload (pc' := 1745) C 0 dL_law_1743 rfl rfl ?_
  refine z_if_eq (pc' := 1748) C 1752 (if_neg hb9 : (if b9 = 0 then (none : Option Unit) else some ()) = some ()) dL_law_1745 rfl rfl (fun q _ => absurd q hb9) (fun _ _ => ?_)
  refine z_lconst (pc' := 1749) C dL_law_1748 zl_1 rfl ?_
  refine z_goto C 1753 dL_law_1749 rfl ?_
  refine z_lcmp_eq (pc' := 1757) (pc1 := 1754) C 1759 (if_pos hv : (if _ = _ then some () else (none : Option Unit)) = some ()) dL_law_1753 rfl dL_law_1754 rfl rfl (fun _ _ => ?_) (fun q _ => absurd hv q)
  refine z_goto C 2707 dL_law_1759 rfl ?_
  refine z_pick (lv' := lw_lv w b i) [2, 3, 4, 5, 6] rfl ?_
  exact kk _ _ _ (by dsimp only [zrx, zr]; omega) (by dsimp only [zrx, zr]; omega)
theorem lc_isApproved_F (hN : 396 ≤ N) (hC : lw_C X w b L xs) (hs : lw_sc L xs i q) (hk : k + 12 ≤ 601024) (hn : n + 1000 ≤ 7293033) {v : Int32} {b9 : Int32} (hf : f_X8_isApproved σ (q 1) = some (.inr v)) (hv8 : v = 0) (hg : g_X9_isApproved ρ (q 1) = some (b9, ρ')) (ht : md_thrown ρ' = 0) (hb9 : b9 = 0) (kk : lw_N X w Q b i N h0 k n σ ρ') : zZ X w Q k n false N (gW w h0 σ ρ u) 1699 (lw_lv w b i) [] := by
  obtain ⟨C, hX, hb, hw⟩ := hC
  have hv : (0 : Int64) = 0 := rfl
  refine z_aload_n (pc' := 1700) C 3 dL_law_1699 rfl rfl rfl ?_
  refine z_aload_n (pc' := 1701) C 4 dL_law_1700 rfl rfl rfl ?_
  refine z_iload (pc' := 1703) C 0 dL_law_1701 rfl rfl ?_
  refine z_iconst (pc' := 1704) C dL_law_1703 zk_iconst_1 rfl ?_
  refine z_iadd (pc' := 1705) C dL_law_1704 rfl ?_
  refine z_sld (pc' := 1706) C hX hb hw (v := q 1) (hs 1 (by decide)) dL_law_1705 rfl ?_
  refine z_aload_n (pc' := 1707) C 1 dL_law_1706 rfl rfl rfl ?_
  refine z_callSW (pc' := 1710) (m := 3) (st := []) (h' := gW w h0 σ ρ (vp_updL u 0 (0))) C (zMw_eq gW_o (c_L_isApproved_F (a := 0) (c0 := 395) (N := N) (by omega) (by omega) (zc_w (a := 389) (o := 6) (by omega) rfl) hf hv8)) zw_968 zw_0 (by decide +kernel) zw_966 zw_967 rfl rfl rfl rfl (room_ok hk hn (by dsimp only [zrx, zr]; omega) (by dsimp only [zrx, zr]; omega)) dL_law_1707 rfl ?_
  refine z_istore (pc' := 1712) C _ dL_law_1710 rfl rfl rfl ?_
  refine z_aload_n (pc' := 1713) C 3 dL_law_1712 rfl rfl rfl ?_
  refine z_aload_n (pc' := 1714) C 5 dL_law_1713 rfl rfl rfl ?_
  refine z_iload (pc' := 1716) C 1 dL_law_1714 rfl rfl ?_
  refine z_iconst (pc' := 1717) C dL_law_1716 zk_iconst_1 rfl ?_
  refine z_iadd (pc' := 1718) C dL_law_1717 rfl ?_
  refine z_sld (pc' := 1719) C hX hb hw (v := q 1) (hs 1 (by decide)) dL_law_1718 rfl ?_
  refine z_callV (pc' := 1722) (st := []) (h' := gW w h0 σ ρ' (vp_updL u 0 (0))) C (d_X9_isApproved hN  hg) zy_X9_isApproved zw_1578 zw_1579 zw_1580 (ci := 9) rfl (gW_c (k := 0) (by omega) rfl) rfl rfl rfl rfl (room_ok hk hn (by dsimp only [zrx, zr]; omega) (by dsimp only [zrx, zr]; omega)) dL_law_1719 rfl ?_
  refine z_istore (pc' := 1724) C _ dL_law_1722 rfl rfl rfl ?_
  refine z_aload_n (pc' := 1725) C 4 dL_law_1724 rfl rfl rfl ?_
  refine z_callV (pc' := 1728) (st := []) (h' := gW w h0 σ ρ' (vp_updL u 0 (0))) C (d_X9_thrown hN (v := md_thrown ρ') rfl) zy_X9_thrown zw_1236 zw_1237 zw_1238 (ci := 9) rfl (gW_c (k := 0) (by omega) rfl) rfl rfl rfl rfl (room_ok hk hn (by dsimp only [zrx, zr]; omega) (by dsimp only [zrx, zr]; omega)) dL_law_1725 rfl ?_
  refine z_iload (pc' := 1730) C 1 dL_law_1728 rfl rfl ?_
  refine z_icmp_eq (pc' := 1733) C 1735 (if_pos ht : (if _ = _ then some () else (none : Option Unit)) = some ()) dL_law_1730 rfl rfl (fun _ _ => ?_) (fun q _ => absurd ht q)
  refine z_iload (pc' := 1737) C 1 dL_law_1735 rfl rfl ?_
  refine z_if_ne (pc' := 1740) C 1759 (if_pos rfl : (if (0 : Int32) = 0 then some () else (none : Option Unit)) = some ()) dL_law_1737 rfl rfl (fun q _ => absurd rfl q) (fun _ _ => ?_)
  refine z_aload_n (pc' := 1741) C 3 dL_law_1740 rfl rfl rfl ?_
  refine z_iconst (pc' := 1742) C dL_law_1741 zk_iconst_0 rfl ?_
  refine z_lald (pc' := 1743) C (K := fun v => some v) rfl (gW_c (k := 6) (by omega) rfl) dL_law_1742 rfl (fun v0 hv0 => ?_)
  cases hv0
  refine z_iload (pc' := 1745) C 0 dL_law_1743 rfl rfl ?_
  refine z_if_eq (pc' := 1748) C 1752 (if_pos hb9 : (if b9 = 0 then some () else (none : Option Unit)) = some ()) dL_law_1745 rfl rfl (fun _ _ => ?_) (fun q _ => absurd hb9 q)
  refine z_lconst (pc' := 1753) C dL_law_1752 zl_0 rfl ?_
  refine z_lcmp_eq (pc' := 1757) (pc1 := 1754) C 1759 (if_pos hv : (if _ = _ then some () else (none : Option Unit)) = some ()) dL_law_1753 rfl dL_law_1754 rfl rfl (fun _ _ => ?_) (fun q _ => absurd hv q)
  refine z_goto C 2707 dL_law_1759 rfl ?_
  refine z_pick (lv' := lw_lv w b i) [2, 3, 4, 5, 6] rfl ?_
  exact kk _ _ _ (by dsimp only [zrx, zr]; omega) (by dsimp only [zrx, zr]; omega)
theorem lc_isApproved_x1 (hN : 396 ≤ N) (hC : lw_C X w b L xs) (hs : lw_sc L xs i q) (hk : k + 12 ≤ 601024) (hn : n + 1000 ≤ 7293033) {b9 : Int32} (hf : f_X8_isApproved σ (q 1) = some (.inl "java/lang/IndexOutOfBoundsException")) (hg : g_X9_isApproved ρ (q 1) = some (b9, ρ')) (ht : md_thrown ρ' = 1) (kk : lw_N X w Q b i N h0 k n σ ρ') : zZ X w Q k n false N (gW w h0 σ ρ u) 1699 (lw_lv w b i) [] := by
  obtain ⟨C, hX, hb, hw⟩ := hC
  refine z_aload_n (pc' := 1700) C 3 dL_law_1699 rfl rfl rfl ?_
  refine z_aload_n (pc' := 1701) C 4 dL_law_1700 rfl rfl rfl ?_
  refine z_iload (pc' := 1703) C 0 dL_law_1701 rfl rfl ?_
  refine z_iconst (pc' := 1704) C dL_law_1703 zk_iconst_1 rfl ?_
  refine z_iadd (pc' := 1705) C dL_law_1704 rfl ?_
  refine z_sld (pc' := 1706) C hX hb hw (v := q 1) (hs 1 (by decide)) dL_law_1705 rfl ?_
  refine z_aload_n (pc' := 1707) C 1 dL_law_1706 rfl rfl rfl ?_
  refine z_callSW (pc' := 1710) (m := 3) (st := []) (h' := gW w h0 σ ρ u) C (c_L_isApproved_1 (a := 0) (c0 := 395) (N := N) (by omega) (by omega) (zc_w (a := 389) (o := 6) (by omega) rfl) hf) zw_968 zw_0 (by decide +kernel) zw_966 zw_967 rfl rfl rfl rfl (room_ok hk hn (by dsimp only [zrx, zr]; omega) (by dsimp only [zrx, zr]; omega)) dL_law_1707 rfl ?_
  refine z_istore (pc' := 1712) C _ dL_law_1710 rfl rfl rfl ?_
  refine z_aload_n (pc' := 1713) C 3 dL_law_1712 rfl rfl rfl ?_
  refine z_aload_n (pc' := 1714) C 5 dL_law_1713 rfl rfl rfl ?_
  refine z_iload (pc' := 1716) C 1 dL_law_1714 rfl rfl ?_
  refine z_iconst (pc' := 1717) C dL_law_1716 zk_iconst_1 rfl ?_
  refine z_iadd (pc' := 1718) C dL_law_1717 rfl ?_
  refine z_sld (pc' := 1719) C hX hb hw (v := q 1) (hs 1 (by decide)) dL_law_1718 rfl ?_
  refine z_callV (pc' := 1722) (st := []) (h' := gW w h0 σ ρ' u) C (d_X9_isApproved hN  hg) zy_X9_isApproved zw_1578 zw_1579 zw_1580 (ci := 9) rfl (gW_c (k := 0) (by omega) rfl) rfl rfl rfl rfl (room_ok hk hn (by dsimp only [zrx, zr]; omega) (by dsimp only [zrx, zr]; omega)) dL_law_1719 rfl ?_
  refine z_istore (pc' := 1724) C _ dL_law_1722 rfl rfl rfl ?_
  refine z_aload_n (pc' := 1725) C 4 dL_law_1724 rfl rfl rfl ?_
  refine z_callV (pc' := 1728) (st := []) (h' := gW w h0 σ ρ' u) C (d_X9_thrown hN (v := md_thrown ρ') rfl) zy_X9_thrown zw_1236 zw_1237 zw_1238 (ci := 9) rfl (gW_c (k := 0) (by omega) rfl) rfl rfl rfl rfl (room_ok hk hn (by dsimp only [zrx, zr]; omega) (by dsimp only [zrx, zr]; omega)) dL_law_1725 rfl ?_
  refine z_iload (pc' := 1730) C 1 dL_law_1728 rfl rfl ?_
  refine z_icmp_eq (pc' := 1733) C 1735 (if_pos ht : (if _ = _ then some () else (none : Option Unit)) = some ()) dL_law_1730 rfl rfl (fun _ _ => ?_) (fun q _ => absurd ht q)
  refine z_iload (pc' := 1737) C 1 dL_law_1735 rfl rfl ?_
  refine z_if_ne (pc' := 1740) C 1759 (if_neg (by decide) : (if (1 : Int32) = 0 then (none : Option Unit) else some ()) = some ()) dL_law_1737 rfl rfl (fun _ _ => ?_) (fun q _ => absurd q (by decide))
  refine z_goto C 2707 dL_law_1759 rfl ?_
  refine z_pick (lv' := lw_lv w b i) [2, 3, 4, 5, 6] rfl ?_
  exact kk _ _ _ (by dsimp only [zrx, zr]; omega) (by dsimp only [zrx, zr]; omega)
theorem lc_variationWorth (hN : 396 ≤ N) (hC : lw_C X w b L xs) (hs : lw_sc L xs i q) (hk : k + 12 ≤ 601024) (hn : n + 1000 ≤ 7293033) (hG : PgW w N 0 (zu h0 389 (mL w ρ u)) σ) {v : Int64} {b9 : Int64} (hf : f_X8_variationWorth σ (q 1) = some (.inr (v, σ'))) (hg : g_X9_variationWorth ρ (q 1) = some (b9, ρ')) (ht : md_thrown ρ' = 0) (hv : v = b9) (kk : lw_N X w Q b i N h0 k n σ' ρ') : zZ X w Q k n false N (gW w h0 σ ρ u) 1762 (lw_lv w b i) [] := by
  obtain ⟨C, hX, hb, hw⟩ := hC
  refine z_aload_n (pc' := 1763) C 3 dL_law_1762 rfl rfl rfl ?_
  refine z_aload_n (pc' := 1764) C 4 dL_law_1763 rfl rfl rfl ?_
  refine z_iload (pc' := 1766) C 0 dL_law_1764 rfl rfl ?_
  refine z_iconst (pc' := 1767) C dL_law_1766 zk_iconst_1 rfl ?_
  refine z_iadd (pc' := 1768) C dL_law_1767 rfl ?_
  refine z_sld (pc' := 1769) C hX hb hw (v := q 1) (hs 1 (by decide)) dL_law_1768 rfl ?_
  refine z_aload_n (pc' := 1770) C 1 dL_law_1769 rfl rfl rfl ?_
  refine z_callSW (pc' := 1773) (m := 3) (st := []) (h' := gW w h0 σ' ρ (vp_updL u 0 (v))) C (zMw_eq gW_o (c_L_variationWorth (a := 0) (c0 := 395) (N := N) (by omega) (by omega) (zc_w (a := 389) (o := 6) (by omega) rfl) hG hf)) zw_979 zw_0 (by decide +kernel) zw_977 zw_978 rfl rfl rfl rfl (room_ok hk hn (by dsimp only [zrx, zr]; omega) (by dsimp only [zrx, zr]; omega)) dL_law_1770 rfl ?_
  refine z_istore (pc' := 1775) C _ dL_law_1773 rfl rfl rfl ?_
  refine z_aload_n (pc' := 1776) C 3 dL_law_1775 rfl rfl rfl ?_
  refine z_aload_n (pc' := 1777) C 5 dL_law_1776 rfl rfl rfl ?_
  refine z_iload (pc' := 1779) C 1 dL_law_1777 rfl rfl ?_
  refine z_iconst (pc' := 1780) C dL_law_1779 zk_iconst_1 rfl ?_
  refine z_iadd (pc' := 1781) C dL_law_1780 rfl ?_
  refine z_sld (pc' := 1782) C hX hb hw (v := q 1) (hs 1 (by decide)) dL_law_1781 rfl ?_
  refine z_callV (pc' := 1785) (st := []) (h' := gW w h0 σ' ρ' (vp_updL u 0 (v))) C (d_X9_variationWorth hN  hg) zy_X9_variationWorth zw_1586 zw_1587 zw_1588 (ci := 9) rfl (gW_c (k := 0) (by omega) rfl) rfl rfl rfl rfl (room_ok hk hn (by dsimp only [zrx, zr]; omega) (by dsimp only [zrx, zr]; omega)) dL_law_1782 rfl ?_
  refine z_lstore (pc' := 1787) C _ dL_law_1785 rfl rfl rfl ?_
  refine z_aload_n (pc' := 1788) C 4 dL_law_1787 rfl rfl rfl ?_
  refine z_callV (pc' := 1791) (st := []) (h' := gW w h0 σ' ρ' (vp_updL u 0 (v))) C (d_X9_thrown hN (v := md_thrown ρ') rfl) zy_X9_thrown zw_1236 zw_1237 zw_1238 (ci := 9) rfl (gW_c (k := 0) (by omega) rfl) rfl rfl rfl rfl (room_ok hk hn (by dsimp only [zrx, zr]; omega) (by dsimp only [zrx, zr]; omega)) dL_law_1788 rfl ?_
  refine z_iload (pc' := 1793) C 1 dL_law_1791 rfl rfl ?_
  refine z_icmp_eq (pc' := 1796) C 1798 (if_pos ht : (if _ = _ then some () else (none : Option Unit)) = some ()) dL_law_1793 rfl rfl (fun _ _ => ?_) (fun q _ => absurd ht q)
  refine z_iload (pc' := 1800) C 1 dL_law_1798 rfl rfl ?_
  refine z_if_ne (pc' := 1803) C 1814 (if_pos rfl : (if (0 : Int32) = 0 then some () else (none : Option Unit)) = some ()) dL_law_1800 rfl rfl (fun q _ => absurd rfl q) (fun _ _ => ?_)
  refine z_aload_n (pc' := 1804) C 3 dL_law_1803 rfl rfl rfl ?_
  refine z_iconst (pc' := 1805) C dL_law_1804 zk_iconst_0 rfl ?_
  refine z_lald (pc' := 1806) C (K := fun v => some v) rfl (gW_c (k := 6) (by omega) rfl) dL_law_1805 rfl (fun v0 hv0 => ?_)
  cases hv0
  refine z_lload (pc' := 1808) C 0 dL_law_1806 rfl rfl ?_
  refine z_lcmp_eq (pc' := 1812) (pc1 := 1809) C 1814 (if_pos hv : (if _ = _ then some () else (none : Option Unit)) = some ()) dL_law_1808 rfl dL_law_1809 rfl rfl (fun _ _ => ?_) (fun q _ => absurd hv q)
  refine z_goto C 2707 dL_law_1814 rfl ?_
  refine z_pick (lv' := lw_lv w b i) [2, 3, 4, 5, 6] rfl ?_
  exact kk _ _ _ (by dsimp only [zrx, zr]; omega) (by dsimp only [zrx, zr]; omega)
theorem lc_variationWorth_x1 (hN : 396 ≤ N) (hC : lw_C X w b L xs) (hs : lw_sc L xs i q) (hk : k + 12 ≤ 601024) (hn : n + 1000 ≤ 7293033) (hG : PgW w N 0 (zu h0 389 (mL w ρ u)) σ) {b9 : Int64} (hf : f_X8_variationWorth σ (q 1) = some (.inl ("java/lang/IndexOutOfBoundsException", σ'))) (hg : g_X9_variationWorth ρ (q 1) = some (b9, ρ')) (ht : md_thrown ρ' = 1) (kk : lw_N X w Q b i N h0 k n σ' ρ') : zZ X w Q k n false N (gW w h0 σ ρ u) 1762 (lw_lv w b i) [] := by
  obtain ⟨C, hX, hb, hw⟩ := hC
  refine z_aload_n (pc' := 1763) C 3 dL_law_1762 rfl rfl rfl ?_
  refine z_aload_n (pc' := 1764) C 4 dL_law_1763 rfl rfl rfl ?_
  refine z_iload (pc' := 1766) C 0 dL_law_1764 rfl rfl ?_
  refine z_iconst (pc' := 1767) C dL_law_1766 zk_iconst_1 rfl ?_
  refine z_iadd (pc' := 1768) C dL_law_1767 rfl ?_
  refine z_sld (pc' := 1769) C hX hb hw (v := q 1) (hs 1 (by decide)) dL_law_1768 rfl ?_
  refine z_aload_n (pc' := 1770) C 1 dL_law_1769 rfl rfl rfl ?_
  refine z_callSW (pc' := 1773) (m := 3) (st := []) (h' := gW w h0 σ' ρ u) C (c_L_variationWorth_1 (a := 0) (c0 := 395) (N := N) (by omega) (by omega) (zc_w (a := 389) (o := 6) (by omega) rfl) hG hf) zw_979 zw_0 (by decide +kernel) zw_977 zw_978 rfl rfl rfl rfl (room_ok hk hn (by dsimp only [zrx, zr]; omega) (by dsimp only [zrx, zr]; omega)) dL_law_1770 rfl ?_
  refine z_istore (pc' := 1775) C _ dL_law_1773 rfl rfl rfl ?_
  refine z_aload_n (pc' := 1776) C 3 dL_law_1775 rfl rfl rfl ?_
  refine z_aload_n (pc' := 1777) C 5 dL_law_1776 rfl rfl rfl ?_
  refine z_iload (pc' := 1779) C 1 dL_law_1777 rfl rfl ?_
  refine z_iconst (pc' := 1780) C dL_law_1779 zk_iconst_1 rfl ?_
  refine z_iadd (pc' := 1781) C dL_law_1780 rfl ?_
  refine z_sld (pc' := 1782) C hX hb hw (v := q 1) (hs 1 (by decide)) dL_law_1781 rfl ?_
  refine z_callV (pc' := 1785) (st := []) (h' := gW w h0 σ' ρ' u) C (d_X9_variationWorth hN  hg) zy_X9_variationWorth zw_1586 zw_1587 zw_1588 (ci := 9) rfl (gW_c (k := 0) (by omega) rfl) rfl rfl rfl rfl (room_ok hk hn (by dsimp only [zrx, zr]; omega) (by dsimp only [zrx, zr]; omega)) dL_law_1782 rfl ?_
  refine z_lstore (pc' := 1787) C _ dL_law_1785 rfl rfl rfl ?_
  refine z_aload_n (pc' := 1788) C 4 dL_law_1787 rfl rfl rfl ?_
  refine z_callV (pc' := 1791) (st := []) (h' := gW w h0 σ' ρ' u) C (d_X9_thrown hN (v := md_thrown ρ') rfl) zy_X9_thrown zw_1236 zw_1237 zw_1238 (ci := 9) rfl (gW_c (k := 0) (by omega) rfl) rfl rfl rfl rfl (room_ok hk hn (by dsimp only [zrx, zr]; omega) (by dsimp only [zrx, zr]; omega)) dL_law_1788 rfl ?_
  refine z_iload (pc' := 1793) C 1 dL_law_1791 rfl rfl ?_
  refine z_icmp_eq (pc' := 1796) C 1798 (if_pos ht : (if _ = _ then some () else (none : Option Unit)) = some ()) dL_law_1793 rfl rfl (fun _ _ => ?_) (fun q _ => absurd ht q)
  refine z_iload (pc' := 1800) C 1 dL_law_1798 rfl rfl ?_
  refine z_if_ne (pc' := 1803) C 1814 (if_neg (by decide) : (if (1 : Int32) = 0 then (none : Option Unit) else some ()) = some ()) dL_law_1800 rfl rfl (fun _ _ => ?_) (fun q _ => absurd q (by decide))
  refine z_goto C 2707 dL_law_1814 rfl ?_
  refine z_pick (lv' := lw_lv w b i) [2, 3, 4, 5, 6] rfl ?_
  exact kk _ _ _ (by dsimp only [zrx, zr]; omega) (by dsimp only [zrx, zr]; omega)
theorem lc_lienCount (hN : 396 ≤ N) (hC : lw_C X w b L xs) (hs : lw_sc L xs i q) (hk : k + 12 ≤ 601024) (hn : n + 1000 ≤ 7293033) {v b9 : Int32} (hf : f_X8_lienCount σ  = some v) (hg : g_X9_lienCount ρ  = some (b9, ρ')) (hv : v = b9) (kk : lw_N X w Q b i N h0 k n σ ρ') : zZ X w Q k n false N (gW w h0 σ ρ u) 1817 (lw_lv w b i) [] := by
  obtain ⟨C, hX, hb, hw⟩ := hC
  refine z_aload_n (pc' := 1818) C 3 dL_law_1817 rfl rfl rfl ?_
  refine z_callV (pc' := 1821) (st := []) (h' := gW w h0 σ ρ u) C (c_X8_lienCount (a := 0) (N := N) (h := zu h0 389 (mL w ρ u)) (σ := σ) (by omega) hf) zy_X8_lienCount zw_373 zw_374 zw_375 (ci := 8) rfl (lg_0 (a := 0) (by omega)) rfl rfl rfl rfl (room_ok hk hn (by dsimp only [zrx, zr]; omega) (by dsimp only [zrx, zr]; omega)) dL_law_1818 rfl ?_
  refine z_aload_n (pc' := 1822) C 2 dL_law_1821 rfl rfl rfl ?_
  refine z_callV (pc' := 1825) (st := [.int v]) (h' := gW w h0 σ ρ' u) C (d_X9_lienCount hN  hg) zy_X9_lienCount zw_1594 zw_1595 zw_1596 (ci := 9) rfl (gW_c (k := 0) (by omega) rfl) rfl rfl rfl rfl (room_ok hk hn (by dsimp only [zrx, zr]; omega) (by dsimp only [zrx, zr]; omega)) dL_law_1822 rfl ?_
  refine z_icmp_eq (pc' := 1828) C 2707 (if_pos hv : (if _ = _ then some () else (none : Option Unit)) = some ()) dL_law_1825 rfl rfl (fun _ _ => ?_) (fun q _ => absurd hv q)
  refine z_pick (lv' := lw_lv w b i) [0, 1, 2, 3, 4] rfl ?_
  exact kk _ _ _ (by dsimp only [zrx, zr]; omega) (by dsimp only [zrx, zr]; omega)
theorem lc_claim (hN : 396 ≤ N) (hC : lw_C X w b L xs) (hs : lw_sc L xs i q) (hk : k + 12 ≤ 601024) (hn : n + 1000 ≤ 7293033) {v : Int64} {b9 : Int64} (hf : f_X8_claim σ (q 1) = some (.inr v)) (hg : g_X9_claim ρ (q 1) = some (b9, ρ')) (ht : md_thrown ρ' = 0) (hv : v = b9) (kk : lw_N X w Q b i N h0 k n σ ρ') : zZ X w Q k n false N (gW w h0 σ ρ u) 1830 (lw_lv w b i) [] := by
  obtain ⟨C, hX, hb, hw⟩ := hC
  refine z_aload_n (pc' := 1831) C 3 dL_law_1830 rfl rfl rfl ?_
  refine z_aload_n (pc' := 1832) C 4 dL_law_1831 rfl rfl rfl ?_
  refine z_iload (pc' := 1834) C 0 dL_law_1832 rfl rfl ?_
  refine z_iconst (pc' := 1835) C dL_law_1834 zk_iconst_1 rfl ?_
  refine z_iadd (pc' := 1836) C dL_law_1835 rfl ?_
  refine z_sld (pc' := 1837) C hX hb hw (v := q 1) (hs 1 (by decide)) dL_law_1836 rfl ?_
  refine z_aload_n (pc' := 1838) C 1 dL_law_1837 rfl rfl rfl ?_
  refine z_callSW (pc' := 1841) (m := 3) (st := []) (h' := gW w h0 σ ρ (vp_updL u 0 (v))) C (zMw_eq gW_o (c_L_claim (a := 0) (c0 := 395) (N := N) (by omega) (by omega) (zc_w (a := 389) (o := 6) (by omega) rfl) hf)) zw_994 zw_0 (by decide +kernel) zw_992 zw_993 rfl rfl rfl rfl (room_ok hk hn (by dsimp only [zrx, zr]; omega) (by dsimp only [zrx, zr]; omega)) dL_law_1838 rfl ?_
  refine z_istore (pc' := 1843) C _ dL_law_1841 rfl rfl rfl ?_
  refine z_aload_n (pc' := 1844) C 3 dL_law_1843 rfl rfl rfl ?_
  refine z_aload_n (pc' := 1845) C 5 dL_law_1844 rfl rfl rfl ?_
  refine z_iload (pc' := 1847) C 1 dL_law_1845 rfl rfl ?_
  refine z_iconst (pc' := 1848) C dL_law_1847 zk_iconst_1 rfl ?_
  refine z_iadd (pc' := 1849) C dL_law_1848 rfl ?_
  refine z_sld (pc' := 1850) C hX hb hw (v := q 1) (hs 1 (by decide)) dL_law_1849 rfl ?_
  refine z_callV (pc' := 1853) (st := []) (h' := gW w h0 σ ρ' (vp_updL u 0 (v))) C (d_X9_claim hN  hg) zy_X9_claim zw_1598 zw_1599 zw_1600 (ci := 9) rfl (gW_c (k := 0) (by omega) rfl) rfl rfl rfl rfl (room_ok hk hn (by dsimp only [zrx, zr]; omega) (by dsimp only [zrx, zr]; omega)) dL_law_1850 rfl ?_
  refine z_lstore (pc' := 1855) C _ dL_law_1853 rfl rfl rfl ?_
  refine z_aload_n (pc' := 1856) C 4 dL_law_1855 rfl rfl rfl ?_
  refine z_callV (pc' := 1859) (st := []) (h' := gW w h0 σ ρ' (vp_updL u 0 (v))) C (d_X9_thrown hN (v := md_thrown ρ') rfl) zy_X9_thrown zw_1236 zw_1237 zw_1238 (ci := 9) rfl (gW_c (k := 0) (by omega) rfl) rfl rfl rfl rfl (room_ok hk hn (by dsimp only [zrx, zr]; omega) (by dsimp only [zrx, zr]; omega)) dL_law_1856 rfl ?_
  refine z_iload (pc' := 1861) C 1 dL_law_1859 rfl rfl ?_
  refine z_icmp_eq (pc' := 1864) C 1866 (if_pos ht : (if _ = _ then some () else (none : Option Unit)) = some ()) dL_law_1861 rfl rfl (fun _ _ => ?_) (fun q _ => absurd ht q)
  refine z_iload (pc' := 1868) C 1 dL_law_1866 rfl rfl ?_
  refine z_if_ne (pc' := 1871) C 1882 (if_pos rfl : (if (0 : Int32) = 0 then some () else (none : Option Unit)) = some ()) dL_law_1868 rfl rfl (fun q _ => absurd rfl q) (fun _ _ => ?_)
  refine z_aload_n (pc' := 1872) C 3 dL_law_1871 rfl rfl rfl ?_
  refine z_iconst (pc' := 1873) C dL_law_1872 zk_iconst_0 rfl ?_
  refine z_lald (pc' := 1874) C (K := fun v => some v) rfl (gW_c (k := 6) (by omega) rfl) dL_law_1873 rfl (fun v0 hv0 => ?_)
  cases hv0
  refine z_lload (pc' := 1876) C 0 dL_law_1874 rfl rfl ?_
  refine z_lcmp_eq (pc' := 1880) (pc1 := 1877) C 1882 (if_pos hv : (if _ = _ then some () else (none : Option Unit)) = some ()) dL_law_1876 rfl dL_law_1877 rfl rfl (fun _ _ => ?_) (fun q _ => absurd hv q)
  refine z_goto C 2707 dL_law_1882 rfl ?_
  refine z_pick (lv' := lw_lv w b i) [2, 3, 4, 5, 6] rfl ?_
  exact kk _ _ _ (by dsimp only [zrx, zr]; omega) (by dsimp only [zrx, zr]; omega)
theorem lc_claim_x1 (hN : 396 ≤ N) (hC : lw_C X w b L xs) (hs : lw_sc L xs i q) (hk : k + 12 ≤ 601024) (hn : n + 1000 ≤ 7293033) {b9 : Int64} (hf : f_X8_claim σ (q 1) = some (.inl "java/lang/IndexOutOfBoundsException")) (hg : g_X9_claim ρ (q 1) = some (b9, ρ')) (ht : md_thrown ρ' = 1) (kk : lw_N X w Q b i N h0 k n σ ρ') : zZ X w Q k n false N (gW w h0 σ ρ u) 1830 (lw_lv w b i) [] := by
  obtain ⟨C, hX, hb, hw⟩ := hC
  refine z_aload_n (pc' := 1831) C 3 dL_law_1830 rfl rfl rfl ?_
  refine z_aload_n (pc' := 1832) C 4 dL_law_1831 rfl rfl rfl ?_
  refine z_iload (pc' := 1834) C 0 dL_law_1832 rfl rfl ?_
  refine z_iconst (pc' := 1835) C dL_law_1834 zk_iconst_1 rfl ?_
  refine z_iadd (pc' := 1836) C dL_law_1835 rfl ?_
  refine z_sld (pc' := 1837) C hX hb hw (v := q 1) (hs 1 (by decide)) dL_law_1836 rfl ?_
  refine z_aload_n (pc' := 1838) C 1 dL_law_1837 rfl rfl rfl ?_
  refine z_callSW (pc' := 1841) (m := 3) (st := []) (h' := gW w h0 σ ρ u) C (c_L_claim_1 (a := 0) (c0 := 395) (N := N) (by omega) (by omega) (zc_w (a := 389) (o := 6) (by omega) rfl) hf) zw_994 zw_0 (by decide +kernel) zw_992 zw_993 rfl rfl rfl rfl (room_ok hk hn (by dsimp only [zrx, zr]; omega) (by dsimp only [zrx, zr]; omega)) dL_law_1838 rfl ?_
  refine z_istore (pc' := 1843) C _ dL_law_1841 rfl rfl rfl ?_
  refine z_aload_n (pc' := 1844) C 3 dL_law_1843 rfl rfl rfl ?_
  refine z_aload_n (pc' := 1845) C 5 dL_law_1844 rfl rfl rfl ?_
  refine z_iload (pc' := 1847) C 1 dL_law_1845 rfl rfl ?_
  refine z_iconst (pc' := 1848) C dL_law_1847 zk_iconst_1 rfl ?_
  refine z_iadd (pc' := 1849) C dL_law_1848 rfl ?_
  refine z_sld (pc' := 1850) C hX hb hw (v := q 1) (hs 1 (by decide)) dL_law_1849 rfl ?_
  refine z_callV (pc' := 1853) (st := []) (h' := gW w h0 σ ρ' u) C (d_X9_claim hN  hg) zy_X9_claim zw_1598 zw_1599 zw_1600 (ci := 9) rfl (gW_c (k := 0) (by omega) rfl) rfl rfl rfl rfl (room_ok hk hn (by dsimp only [zrx, zr]; omega) (by dsimp only [zrx, zr]; omega)) dL_law_1850 rfl ?_
  refine z_lstore (pc' := 1855) C _ dL_law_1853 rfl rfl rfl ?_
  refine z_aload_n (pc' := 1856) C 4 dL_law_1855 rfl rfl rfl ?_
  refine z_callV (pc' := 1859) (st := []) (h' := gW w h0 σ ρ' u) C (d_X9_thrown hN (v := md_thrown ρ') rfl) zy_X9_thrown zw_1236 zw_1237 zw_1238 (ci := 9) rfl (gW_c (k := 0) (by omega) rfl) rfl rfl rfl rfl (room_ok hk hn (by dsimp only [zrx, zr]; omega) (by dsimp only [zrx, zr]; omega)) dL_law_1856 rfl ?_
  refine z_iload (pc' := 1861) C 1 dL_law_1859 rfl rfl ?_
  refine z_icmp_eq (pc' := 1864) C 1866 (if_pos ht : (if _ = _ then some () else (none : Option Unit)) = some ()) dL_law_1861 rfl rfl (fun _ _ => ?_) (fun q _ => absurd ht q)
  refine z_iload (pc' := 1868) C 1 dL_law_1866 rfl rfl ?_
  refine z_if_ne (pc' := 1871) C 1882 (if_neg (by decide) : (if (1 : Int32) = 0 then (none : Option Unit) else some ()) = some ()) dL_law_1868 rfl rfl (fun _ _ => ?_) (fun q _ => absurd q (by decide))
  refine z_goto C 2707 dL_law_1882 rfl ?_
  refine z_pick (lv' := lw_lv w b i) [2, 3, 4, 5, 6] rfl ?_
  exact kk _ _ _ (by dsimp only [zrx, zr]; omega) (by dsimp only [zrx, zr]; omega)
theorem lc_priority (hN : 396 ≤ N) (hC : lw_C X w b L xs) (hs : lw_sc L xs i q) (hk : k + 12 ≤ 601024) (hn : n + 1000 ≤ 7293033) {v : Int32} {b9 : Int32} (hf : f_X8_priority σ (q 1) = some (.inr v)) (hg : g_X9_priority ρ (q 1) = some (b9, ρ')) (ht : md_thrown ρ' = 0) (hv : v.toInt64 = b9.toInt64) (kk : lw_N X w Q b i N h0 k n σ ρ') : zZ X w Q k n false N (gW w h0 σ ρ u) 1885 (lw_lv w b i) [] := by
  obtain ⟨C, hX, hb, hw⟩ := hC
  refine z_aload_n (pc' := 1886) C 3 dL_law_1885 rfl rfl rfl ?_
  refine z_aload_n (pc' := 1887) C 4 dL_law_1886 rfl rfl rfl ?_
  refine z_iload (pc' := 1889) C 0 dL_law_1887 rfl rfl ?_
  refine z_iconst (pc' := 1890) C dL_law_1889 zk_iconst_1 rfl ?_
  refine z_iadd (pc' := 1891) C dL_law_1890 rfl ?_
  refine z_sld (pc' := 1892) C hX hb hw (v := q 1) (hs 1 (by decide)) dL_law_1891 rfl ?_
  refine z_aload_n (pc' := 1893) C 1 dL_law_1892 rfl rfl rfl ?_
  refine z_callSW (pc' := 1896) (m := 3) (st := []) (h' := gW w h0 σ ρ (vp_updL u 0 (v.toInt64))) C (zMw_eq gW_o (c_L_priority (a := 0) (c0 := 395) (N := N) (by omega) (by omega) (zc_w (a := 389) (o := 6) (by omega) rfl) hf)) zw_1006 zw_0 (by decide +kernel) zw_1004 zw_1005 rfl rfl rfl rfl (room_ok hk hn (by dsimp only [zrx, zr]; omega) (by dsimp only [zrx, zr]; omega)) dL_law_1893 rfl ?_
  refine z_istore (pc' := 1898) C _ dL_law_1896 rfl rfl rfl ?_
  refine z_aload_n (pc' := 1899) C 3 dL_law_1898 rfl rfl rfl ?_
  refine z_aload_n (pc' := 1900) C 5 dL_law_1899 rfl rfl rfl ?_
  refine z_iload (pc' := 1902) C 1 dL_law_1900 rfl rfl ?_
  refine z_iconst (pc' := 1903) C dL_law_1902 zk_iconst_1 rfl ?_
  refine z_iadd (pc' := 1904) C dL_law_1903 rfl ?_
  refine z_sld (pc' := 1905) C hX hb hw (v := q 1) (hs 1 (by decide)) dL_law_1904 rfl ?_
  refine z_callV (pc' := 1908) (st := []) (h' := gW w h0 σ ρ' (vp_updL u 0 (v.toInt64))) C (d_X9_priority hN  hg) zy_X9_priority zw_1613 zw_1614 zw_1615 (ci := 9) rfl (gW_c (k := 0) (by omega) rfl) rfl rfl rfl rfl (room_ok hk hn (by dsimp only [zrx, zr]; omega) (by dsimp only [zrx, zr]; omega)) dL_law_1905 rfl ?_
  refine z_istore (pc' := 1910) C _ dL_law_1908 rfl rfl rfl ?_
  refine z_aload_n (pc' := 1911) C 4 dL_law_1910 rfl rfl rfl ?_
  refine z_callV (pc' := 1914) (st := []) (h' := gW w h0 σ ρ' (vp_updL u 0 (v.toInt64))) C (d_X9_thrown hN (v := md_thrown ρ') rfl) zy_X9_thrown zw_1236 zw_1237 zw_1238 (ci := 9) rfl (gW_c (k := 0) (by omega) rfl) rfl rfl rfl rfl (room_ok hk hn (by dsimp only [zrx, zr]; omega) (by dsimp only [zrx, zr]; omega)) dL_law_1911 rfl ?_
  refine z_iload (pc' := 1916) C 1 dL_law_1914 rfl rfl ?_
  refine z_icmp_eq (pc' := 1919) C 1921 (if_pos ht : (if _ = _ then some () else (none : Option Unit)) = some ()) dL_law_1916 rfl rfl (fun _ _ => ?_) (fun q _ => absurd ht q)
  refine z_iload (pc' := 1923) C 1 dL_law_1921 rfl rfl ?_
  refine z_if_ne (pc' := 1926) C 1938 (if_pos rfl : (if (0 : Int32) = 0 then some () else (none : Option Unit)) = some ()) dL_law_1923 rfl rfl (fun q _ => absurd rfl q) (fun _ _ => ?_)
  refine z_aload_n (pc' := 1927) C 3 dL_law_1926 rfl rfl rfl ?_
  refine z_iconst (pc' := 1928) C dL_law_1927 zk_iconst_0 rfl ?_
  refine z_lald (pc' := 1929) C (K := fun v => some v) rfl (gW_c (k := 6) (by omega) rfl) dL_law_1928 rfl (fun v0 hv0 => ?_)
  cases hv0
  refine z_iload (pc' := 1931) C 0 dL_law_1929 rfl rfl ?_
  refine z_i2l (pc' := 1932) C dL_law_1931 rfl ?_
  refine z_lcmp_eq (pc' := 1936) (pc1 := 1933) C 1938 (if_pos hv : (if _ = _ then some () else (none : Option Unit)) = some ()) dL_law_1932 rfl dL_law_1933 rfl rfl (fun _ _ => ?_) (fun q _ => absurd hv q)
  refine z_goto C 2707 dL_law_1938 rfl ?_
  refine z_pick (lv' := lw_lv w b i) [2, 3, 4, 5, 6] rfl ?_
  exact kk _ _ _ (by dsimp only [zrx, zr]; omega) (by dsimp only [zrx, zr]; omega)
theorem lc_priority_x1 (hN : 396 ≤ N) (hC : lw_C X w b L xs) (hs : lw_sc L xs i q) (hk : k + 12 ≤ 601024) (hn : n + 1000 ≤ 7293033) {b9 : Int32} (hf : f_X8_priority σ (q 1) = some (.inl "java/lang/IndexOutOfBoundsException")) (hg : g_X9_priority ρ (q 1) = some (b9, ρ')) (ht : md_thrown ρ' = 1) (kk : lw_N X w Q b i N h0 k n σ ρ') : zZ X w Q k n false N (gW w h0 σ ρ u) 1885 (lw_lv w b i) [] := by
  obtain ⟨C, hX, hb, hw⟩ := hC
  refine z_aload_n (pc' := 1886) C 3 dL_law_1885 rfl rfl rfl ?_
  refine z_aload_n (pc' := 1887) C 4 dL_law_1886 rfl rfl rfl ?_
  refine z_iload (pc' := 1889) C 0 dL_law_1887 rfl rfl ?_
  refine z_iconst (pc' := 1890) C dL_law_1889 zk_iconst_1 rfl ?_
  refine z_iadd (pc' := 1891) C dL_law_1890 rfl ?_
  refine z_sld (pc' := 1892) C hX hb hw (v := q 1) (hs 1 (by decide)) dL_law_1891 rfl ?_
  refine z_aload_n (pc' := 1893) C 1 dL_law_1892 rfl rfl rfl ?_
  refine z_callSW (pc' := 1896) (m := 3) (st := []) (h' := gW w h0 σ ρ u) C (c_L_priority_1 (a := 0) (c0 := 395) (N := N) (by omega) (by omega) (zc_w (a := 389) (o := 6) (by omega) rfl) hf) zw_1006 zw_0 (by decide +kernel) zw_1004 zw_1005 rfl rfl rfl rfl (room_ok hk hn (by dsimp only [zrx, zr]; omega) (by dsimp only [zrx, zr]; omega)) dL_law_1893 rfl ?_
  refine z_istore (pc' := 1898) C _ dL_law_1896 rfl rfl rfl ?_
  refine z_aload_n (pc' := 1899) C 3 dL_law_1898 rfl rfl rfl ?_
  refine z_aload_n (pc' := 1900) C 5 dL_law_1899 rfl rfl rfl ?_
  refine z_iload (pc' := 1902) C 1 dL_law_1900 rfl rfl ?_
  refine z_iconst (pc' := 1903) C dL_law_1902 zk_iconst_1 rfl ?_
  refine z_iadd (pc' := 1904) C dL_law_1903 rfl ?_
  refine z_sld (pc' := 1905) C hX hb hw (v := q 1) (hs 1 (by decide)) dL_law_1904 rfl ?_
  refine z_callV (pc' := 1908) (st := []) (h' := gW w h0 σ ρ' u) C (d_X9_priority hN  hg) zy_X9_priority zw_1613 zw_1614 zw_1615 (ci := 9) rfl (gW_c (k := 0) (by omega) rfl) rfl rfl rfl rfl (room_ok hk hn (by dsimp only [zrx, zr]; omega) (by dsimp only [zrx, zr]; omega)) dL_law_1905 rfl ?_
  refine z_istore (pc' := 1910) C _ dL_law_1908 rfl rfl rfl ?_
  refine z_aload_n (pc' := 1911) C 4 dL_law_1910 rfl rfl rfl ?_
  refine z_callV (pc' := 1914) (st := []) (h' := gW w h0 σ ρ' u) C (d_X9_thrown hN (v := md_thrown ρ') rfl) zy_X9_thrown zw_1236 zw_1237 zw_1238 (ci := 9) rfl (gW_c (k := 0) (by omega) rfl) rfl rfl rfl rfl (room_ok hk hn (by dsimp only [zrx, zr]; omega) (by dsimp only [zrx, zr]; omega)) dL_law_1911 rfl ?_
  refine z_iload (pc' := 1916) C 1 dL_law_1914 rfl rfl ?_
  refine z_icmp_eq (pc' := 1919) C 1921 (if_pos ht : (if _ = _ then some () else (none : Option Unit)) = some ()) dL_law_1916 rfl rfl (fun _ _ => ?_) (fun q _ => absurd ht q)
  refine z_iload (pc' := 1923) C 1 dL_law_1921 rfl rfl ?_
  refine z_if_ne (pc' := 1926) C 1938 (if_neg (by decide) : (if (1 : Int32) = 0 then (none : Option Unit) else some ()) = some ()) dL_law_1923 rfl rfl (fun _ _ => ?_) (fun q _ => absurd q (by decide))
  refine z_goto C 2707 dL_law_1938 rfl ?_
  refine z_pick (lv' := lw_lv w b i) [2, 3, 4, 5, 6] rfl ?_
  exact kk _ _ _ (by dsimp only [zrx, zr]; omega) (by dsimp only [zrx, zr]; omega)
theorem lc_share (hN : 396 ≤ N) (hC : lw_C X w b L xs) (hs : lw_sc L xs i q) (hk : k + 12 ≤ 601024) (hn : n + 1000 ≤ 7293033) {v : Int64} {b9 : Int64} (hf : f_X8_share σ (q 1) (q 2) = some (.inr v)) (hg : g_X9_share ρ (q 1) (q 2) = some (b9, ρ')) (ht : md_thrown ρ' = 0) (hv : v = b9) (kk : lw_N X w Q b i N h0 k n σ ρ') : zZ X w Q k n false N (gW w h0 σ ρ u) 1941 (lw_lv w b i) [] := by
  obtain ⟨C, hX, hb, hw⟩ := hC
  refine z_aload_n (pc' := 1942) C 3 dL_law_1941 rfl rfl rfl ?_
  refine z_aload_n (pc' := 1943) C 4 dL_law_1942 rfl rfl rfl ?_
  refine z_iload (pc' := 1945) C 0 dL_law_1943 rfl rfl ?_
  refine z_iconst (pc' := 1946) C dL_law_1945 zk_iconst_1 rfl ?_
  refine z_iadd (pc' := 1947) C dL_law_1946 rfl ?_
  refine z_sld (pc' := 1948) C hX hb hw (v := q 1) (hs 1 (by decide)) dL_law_1947 rfl ?_
  refine z_aload_n (pc' := 1949) C 4 dL_law_1948 rfl rfl rfl ?_
  refine z_iload (pc' := 1951) C 0 dL_law_1949 rfl rfl ?_
  refine z_iconst (pc' := 1952) C dL_law_1951 zk_iconst_2 rfl ?_
  refine z_iadd (pc' := 1953) C dL_law_1952 rfl ?_
  refine z_sld (pc' := 1954) C hX hb hw (v := q 2) (hs 2 (by decide)) dL_law_1953 rfl ?_
  refine z_aload_n (pc' := 1955) C 1 dL_law_1954 rfl rfl rfl ?_
  refine z_callSW (pc' := 1958) (m := 4) (st := []) (h' := gW w h0 σ ρ (vp_updL u 0 (v))) C (zMw_eq gW_o (c_L_share (a := 0) (c0 := 395) (N := N) (by omega) (by omega) (zc_w (a := 389) (o := 6) (by omega) rfl) hf)) zw_1025 zw_0 (by decide +kernel) zw_1023 zw_1024 rfl rfl rfl rfl (room_ok hk hn (by dsimp only [zrx, zr]; omega) (by dsimp only [zrx, zr]; omega)) dL_law_1955 rfl ?_
  refine z_istore (pc' := 1960) C _ dL_law_1958 rfl rfl rfl ?_
  refine z_aload_n (pc' := 1961) C 3 dL_law_1960 rfl rfl rfl ?_
  refine z_aload_n (pc' := 1962) C 5 dL_law_1961 rfl rfl rfl ?_
  refine z_iload (pc' := 1964) C 1 dL_law_1962 rfl rfl ?_
  refine z_iconst (pc' := 1965) C dL_law_1964 zk_iconst_1 rfl ?_
  refine z_iadd (pc' := 1966) C dL_law_1965 rfl ?_
  refine z_sld (pc' := 1967) C hX hb hw (v := q 1) (hs 1 (by decide)) dL_law_1966 rfl ?_
  refine z_aload_n (pc' := 1968) C 5 dL_law_1967 rfl rfl rfl ?_
  refine z_iload (pc' := 1970) C 1 dL_law_1968 rfl rfl ?_
  refine z_iconst (pc' := 1971) C dL_law_1970 zk_iconst_2 rfl ?_
  refine z_iadd (pc' := 1972) C dL_law_1971 rfl ?_
  refine z_sld (pc' := 1973) C hX hb hw (v := q 2) (hs 2 (by decide)) dL_law_1972 rfl ?_
  refine z_callV (pc' := 1976) (st := []) (h' := gW w h0 σ ρ' (vp_updL u 0 (v))) C (d_X9_share hN  hg) zy_X9_share zw_1629 zw_1630 zw_1631 (ci := 9) rfl (gW_c (k := 0) (by omega) rfl) rfl rfl rfl rfl (room_ok hk hn (by dsimp only [zrx, zr]; omega) (by dsimp only [zrx, zr]; omega)) dL_law_1973 rfl ?_
  refine z_lstore (pc' := 1978) C _ dL_law_1976 rfl rfl rfl ?_
  refine z_aload_n (pc' := 1979) C 4 dL_law_1978 rfl rfl rfl ?_
  refine z_callV (pc' := 1982) (st := []) (h' := gW w h0 σ ρ' (vp_updL u 0 (v))) C (d_X9_thrown hN (v := md_thrown ρ') rfl) zy_X9_thrown zw_1236 zw_1237 zw_1238 (ci := 9) rfl (gW_c (k := 0) (by omega) rfl) rfl rfl rfl rfl (room_ok hk hn (by dsimp only [zrx, zr]; omega) (by dsimp only [zrx, zr]; omega)) dL_law_1979 rfl ?_
  refine z_iload (pc' := 1984) C 1 dL_law_1982 rfl rfl ?_
  refine z_icmp_eq (pc' := 1987) C 1989 (if_pos ht : (if _ = _ then some () else (none : Option Unit)) = some ()) dL_law_1984 rfl rfl (fun _ _ => ?_) (fun q _ => absurd ht q)
  refine z_iload (pc' := 1991) C 1 dL_law_1989 rfl rfl ?_
  refine z_if_ne (pc' := 1994) C 2005 (if_pos rfl : (if (0 : Int32) = 0 then some () else (none : Option Unit)) = some ()) dL_law_1991 rfl rfl (fun q _ => absurd rfl q) (fun _ _ => ?_)
  refine z_aload_n (pc' := 1995) C 3 dL_law_1994 rfl rfl rfl ?_
  refine z_iconst (pc' := 1996) C dL_law_1995 zk_iconst_0 rfl ?_
  refine z_lald (pc' := 1997) C (K := fun v => some v) rfl (gW_c (k := 6) (by omega) rfl) dL_law_1996 rfl (fun v0 hv0 => ?_)
  cases hv0
  refine z_lload (pc' := 1999) C 0 dL_law_1997 rfl rfl ?_
  refine z_lcmp_eq (pc' := 2003) (pc1 := 2000) C 2005 (if_pos hv : (if _ = _ then some () else (none : Option Unit)) = some ()) dL_law_1999 rfl dL_law_2000 rfl rfl (fun _ _ => ?_) (fun q _ => absurd hv q)
  refine z_goto C 2707 dL_law_2005 rfl ?_
  refine z_pick (lv' := lw_lv w b i) [2, 3, 4, 5, 6] rfl ?_
  exact kk _ _ _ (by dsimp only [zrx, zr]; omega) (by dsimp only [zrx, zr]; omega)
theorem lc_share_x1 (hN : 396 ≤ N) (hC : lw_C X w b L xs) (hs : lw_sc L xs i q) (hk : k + 12 ≤ 601024) (hn : n + 1000 ≤ 7293033) {b9 : Int64} (hf : f_X8_share σ (q 1) (q 2) = some (.inl "java/lang/IndexOutOfBoundsException")) (hg : g_X9_share ρ (q 1) (q 2) = some (b9, ρ')) (ht : md_thrown ρ' = 1) (kk : lw_N X w Q b i N h0 k n σ ρ') : zZ X w Q k n false N (gW w h0 σ ρ u) 1941 (lw_lv w b i) [] := by
  obtain ⟨C, hX, hb, hw⟩ := hC
  refine z_aload_n (pc' := 1942) C 3 dL_law_1941 rfl rfl rfl ?_
  refine z_aload_n (pc' := 1943) C 4 dL_law_1942 rfl rfl rfl ?_
  refine z_iload (pc' := 1945) C 0 dL_law_1943 rfl rfl ?_
  refine z_iconst (pc' := 1946) C dL_law_1945 zk_iconst_1 rfl ?_
  refine z_iadd (pc' := 1947) C dL_law_1946 rfl ?_
  refine z_sld (pc' := 1948) C hX hb hw (v := q 1) (hs 1 (by decide)) dL_law_1947 rfl ?_
  refine z_aload_n (pc' := 1949) C 4 dL_law_1948 rfl rfl rfl ?_
  refine z_iload (pc' := 1951) C 0 dL_law_1949 rfl rfl ?_
  refine z_iconst (pc' := 1952) C dL_law_1951 zk_iconst_2 rfl ?_
  refine z_iadd (pc' := 1953) C dL_law_1952 rfl ?_
  refine z_sld (pc' := 1954) C hX hb hw (v := q 2) (hs 2 (by decide)) dL_law_1953 rfl ?_
  refine z_aload_n (pc' := 1955) C 1 dL_law_1954 rfl rfl rfl ?_
  refine z_callSW (pc' := 1958) (m := 4) (st := []) (h' := gW w h0 σ ρ u) C (c_L_share_1 (a := 0) (c0 := 395) (N := N) (by omega) (by omega) (zc_w (a := 389) (o := 6) (by omega) rfl) hf) zw_1025 zw_0 (by decide +kernel) zw_1023 zw_1024 rfl rfl rfl rfl (room_ok hk hn (by dsimp only [zrx, zr]; omega) (by dsimp only [zrx, zr]; omega)) dL_law_1955 rfl ?_
  refine z_istore (pc' := 1960) C _ dL_law_1958 rfl rfl rfl ?_
  refine z_aload_n (pc' := 1961) C 3 dL_law_1960 rfl rfl rfl ?_
  refine z_aload_n (pc' := 1962) C 5 dL_law_1961 rfl rfl rfl ?_
  refine z_iload (pc' := 1964) C 1 dL_law_1962 rfl rfl ?_
  refine z_iconst (pc' := 1965) C dL_law_1964 zk_iconst_1 rfl ?_
  refine z_iadd (pc' := 1966) C dL_law_1965 rfl ?_
  refine z_sld (pc' := 1967) C hX hb hw (v := q 1) (hs 1 (by decide)) dL_law_1966 rfl ?_
  refine z_aload_n (pc' := 1968) C 5 dL_law_1967 rfl rfl rfl ?_
  refine z_iload (pc' := 1970) C 1 dL_law_1968 rfl rfl ?_
  refine z_iconst (pc' := 1971) C dL_law_1970 zk_iconst_2 rfl ?_
  refine z_iadd (pc' := 1972) C dL_law_1971 rfl ?_
  refine z_sld (pc' := 1973) C hX hb hw (v := q 2) (hs 2 (by decide)) dL_law_1972 rfl ?_
  refine z_callV (pc' := 1976) (st := []) (h' := gW w h0 σ ρ' u) C (d_X9_share hN  hg) zy_X9_share zw_1629 zw_1630 zw_1631 (ci := 9) rfl (gW_c (k := 0) (by omega) rfl) rfl rfl rfl rfl (room_ok hk hn (by dsimp only [zrx, zr]; omega) (by dsimp only [zrx, zr]; omega)) dL_law_1973 rfl ?_
  refine z_lstore (pc' := 1978) C _ dL_law_1976 rfl rfl rfl ?_
  refine z_aload_n (pc' := 1979) C 4 dL_law_1978 rfl rfl rfl ?_
  refine z_callV (pc' := 1982) (st := []) (h' := gW w h0 σ ρ' u) C (d_X9_thrown hN (v := md_thrown ρ') rfl) zy_X9_thrown zw_1236 zw_1237 zw_1238 (ci := 9) rfl (gW_c (k := 0) (by omega) rfl) rfl rfl rfl rfl (room_ok hk hn (by dsimp only [zrx, zr]; omega) (by dsimp only [zrx, zr]; omega)) dL_law_1979 rfl ?_
  refine z_iload (pc' := 1984) C 1 dL_law_1982 rfl rfl ?_
  refine z_icmp_eq (pc' := 1987) C 1989 (if_pos ht : (if _ = _ then some () else (none : Option Unit)) = some ()) dL_law_1984 rfl rfl (fun _ _ => ?_) (fun q _ => absurd ht q)
  refine z_iload (pc' := 1991) C 1 dL_law_1989 rfl rfl ?_
  refine z_if_ne (pc' := 1994) C 2005 (if_neg (by decide) : (if (1 : Int32) = 0 then (none : Option Unit) else some ()) = some ()) dL_law_1991 rfl rfl (fun _ _ => ?_) (fun q _ => absurd q (by decide))
  refine z_goto C 2707 dL_law_2005 rfl ?_
  refine z_pick (lv' := lw_lv w b i) [2, 3, 4, 5, 6] rfl ?_
  exact kk _ _ _ (by dsimp only [zrx, zr]; omega) (by dsimp only [zrx, zr]; omega)
theorem lc_share_x2 (hN : 396 ≤ N) (hC : lw_C X w b L xs) (hs : lw_sc L xs i q) (hk : k + 12 ≤ 601024) (hn : n + 1000 ≤ 7293033) {b9 : Int64} (hf : f_X8_share σ (q 1) (q 2) = some (.inl "java/lang/IllegalArgumentException")) (hg : g_X9_share ρ (q 1) (q 2) = some (b9, ρ')) (ht : md_thrown ρ' = 2) (kk : lw_N X w Q b i N h0 k n σ ρ') : zZ X w Q k n false N (gW w h0 σ ρ u) 1941 (lw_lv w b i) [] := by
  obtain ⟨C, hX, hb, hw⟩ := hC
  refine z_aload_n (pc' := 1942) C 3 dL_law_1941 rfl rfl rfl ?_
  refine z_aload_n (pc' := 1943) C 4 dL_law_1942 rfl rfl rfl ?_
  refine z_iload (pc' := 1945) C 0 dL_law_1943 rfl rfl ?_
  refine z_iconst (pc' := 1946) C dL_law_1945 zk_iconst_1 rfl ?_
  refine z_iadd (pc' := 1947) C dL_law_1946 rfl ?_
  refine z_sld (pc' := 1948) C hX hb hw (v := q 1) (hs 1 (by decide)) dL_law_1947 rfl ?_
  refine z_aload_n (pc' := 1949) C 4 dL_law_1948 rfl rfl rfl ?_
  refine z_iload (pc' := 1951) C 0 dL_law_1949 rfl rfl ?_
  refine z_iconst (pc' := 1952) C dL_law_1951 zk_iconst_2 rfl ?_
  refine z_iadd (pc' := 1953) C dL_law_1952 rfl ?_
  refine z_sld (pc' := 1954) C hX hb hw (v := q 2) (hs 2 (by decide)) dL_law_1953 rfl ?_
  refine z_aload_n (pc' := 1955) C 1 dL_law_1954 rfl rfl rfl ?_
  refine z_callSW (pc' := 1958) (m := 4) (st := []) (h' := gW w h0 σ ρ u) C (c_L_share_2 (a := 0) (c0 := 395) (N := N) (by omega) (by omega) (zc_w (a := 389) (o := 6) (by omega) rfl) hf) zw_1025 zw_0 (by decide +kernel) zw_1023 zw_1024 rfl rfl rfl rfl (room_ok hk hn (by dsimp only [zrx, zr]; omega) (by dsimp only [zrx, zr]; omega)) dL_law_1955 rfl ?_
  refine z_istore (pc' := 1960) C _ dL_law_1958 rfl rfl rfl ?_
  refine z_aload_n (pc' := 1961) C 3 dL_law_1960 rfl rfl rfl ?_
  refine z_aload_n (pc' := 1962) C 5 dL_law_1961 rfl rfl rfl ?_
  refine z_iload (pc' := 1964) C 1 dL_law_1962 rfl rfl ?_
  refine z_iconst (pc' := 1965) C dL_law_1964 zk_iconst_1 rfl ?_
  refine z_iadd (pc' := 1966) C dL_law_1965 rfl ?_
  refine z_sld (pc' := 1967) C hX hb hw (v := q 1) (hs 1 (by decide)) dL_law_1966 rfl ?_
  refine z_aload_n (pc' := 1968) C 5 dL_law_1967 rfl rfl rfl ?_
  refine z_iload (pc' := 1970) C 1 dL_law_1968 rfl rfl ?_
  refine z_iconst (pc' := 1971) C dL_law_1970 zk_iconst_2 rfl ?_
  refine z_iadd (pc' := 1972) C dL_law_1971 rfl ?_
  refine z_sld (pc' := 1973) C hX hb hw (v := q 2) (hs 2 (by decide)) dL_law_1972 rfl ?_
  refine z_callV (pc' := 1976) (st := []) (h' := gW w h0 σ ρ' u) C (d_X9_share hN  hg) zy_X9_share zw_1629 zw_1630 zw_1631 (ci := 9) rfl (gW_c (k := 0) (by omega) rfl) rfl rfl rfl rfl (room_ok hk hn (by dsimp only [zrx, zr]; omega) (by dsimp only [zrx, zr]; omega)) dL_law_1973 rfl ?_
  refine z_lstore (pc' := 1978) C _ dL_law_1976 rfl rfl rfl ?_
  refine z_aload_n (pc' := 1979) C 4 dL_law_1978 rfl rfl rfl ?_
  refine z_callV (pc' := 1982) (st := []) (h' := gW w h0 σ ρ' u) C (d_X9_thrown hN (v := md_thrown ρ') rfl) zy_X9_thrown zw_1236 zw_1237 zw_1238 (ci := 9) rfl (gW_c (k := 0) (by omega) rfl) rfl rfl rfl rfl (room_ok hk hn (by dsimp only [zrx, zr]; omega) (by dsimp only [zrx, zr]; omega)) dL_law_1979 rfl ?_
  refine z_iload (pc' := 1984) C 1 dL_law_1982 rfl rfl ?_
  refine z_icmp_eq (pc' := 1987) C 1989 (if_pos ht : (if _ = _ then some () else (none : Option Unit)) = some ()) dL_law_1984 rfl rfl (fun _ _ => ?_) (fun q _ => absurd ht q)
  refine z_iload (pc' := 1991) C 1 dL_law_1989 rfl rfl ?_
  refine z_if_ne (pc' := 1994) C 2005 (if_neg (by decide) : (if (2 : Int32) = 0 then (none : Option Unit) else some ()) = some ()) dL_law_1991 rfl rfl (fun _ _ => ?_) (fun q _ => absurd q (by decide))
  refine z_goto C 2707 dL_law_2005 rfl ?_
  refine z_pick (lv' := lw_lv w b i) [2, 3, 4, 5, 6] rfl ?_
  exact kk _ _ _ (by dsimp only [zrx, zr]; omega) (by dsimp only [zrx, zr]; omega)
theorem lc_measure (hN : 396 ≤ N) (hC : lw_C X w b L xs) (hs : lw_sc L xs i q) (hk : k + 12 ≤ 601024) (hn : n + 1000 ≤ 7293033) {v : Int32} {b9 : Int32} (hf : f_X8_measure σ (q 1) (q 2) (q 3) = some (.inr (v, σ'))) (hg : g_X9_measure ρ (q 1) (q 2) (q 3) = some (b9, ρ')) (ht : md_thrown ρ' = 0) (hv : v.toInt64 = b9.toInt64) (kk : lw_N X w Q b i N h0 k n σ' ρ') : zZ X w Q k n false N (gW w h0 σ ρ u) 2008 (lw_lv w b i) [] := by
  obtain ⟨C, hX, hb, hw⟩ := hC
  refine z_aload_n (pc' := 2009) C 3 dL_law_2008 rfl rfl rfl ?_
  refine z_aload_n (pc' := 2010) C 4 dL_law_2009 rfl rfl rfl ?_
  refine z_iload (pc' := 2012) C 0 dL_law_2010 rfl rfl ?_
  refine z_iconst (pc' := 2013) C dL_law_2012 zk_iconst_1 rfl ?_
  refine z_iadd (pc' := 2014) C dL_law_2013 rfl ?_
  refine z_sld (pc' := 2015) C hX hb hw (v := q 1) (hs 1 (by decide)) dL_law_2014 rfl ?_
  refine z_aload_n (pc' := 2016) C 4 dL_law_2015 rfl rfl rfl ?_
  refine z_iload (pc' := 2018) C 0 dL_law_2016 rfl rfl ?_
  refine z_iconst (pc' := 2019) C dL_law_2018 zk_iconst_2 rfl ?_
  refine z_iadd (pc' := 2020) C dL_law_2019 rfl ?_
  refine z_sld (pc' := 2021) C hX hb hw (v := q 2) (hs 2 (by decide)) dL_law_2020 rfl ?_
  refine z_aload_n (pc' := 2022) C 4 dL_law_2021 rfl rfl rfl ?_
  refine z_iload (pc' := 2024) C 0 dL_law_2022 rfl rfl ?_
  refine z_iconst (pc' := 2025) C dL_law_2024 zk_iconst_3 rfl ?_
  refine z_iadd (pc' := 2026) C dL_law_2025 rfl ?_
  refine z_sld (pc' := 2027) C hX hb hw (v := q 3) (hs 3 (by decide)) dL_law_2026 rfl ?_
  refine z_aload_n (pc' := 2028) C 1 dL_law_2027 rfl rfl rfl ?_
  refine z_callSW (pc' := 2031) (m := 5) (st := []) (h' := gW w h0 σ' ρ (vp_updL u 0 (v.toInt64))) C (zMw_eq gW_o (c_L_measure (a := 0) (c0 := 395) (N := N) (by omega) (by omega) (zc_w (a := 389) (o := 6) (by omega) rfl) hf)) zw_1045 zw_0 (by decide +kernel) zw_1043 zw_1044 rfl rfl rfl rfl (room_ok hk hn (by dsimp only [zrx, zr]; omega) (by dsimp only [zrx, zr]; omega)) dL_law_2028 rfl ?_
  refine z_istore (pc' := 2033) C _ dL_law_2031 rfl rfl rfl ?_
  refine z_aload_n (pc' := 2034) C 3 dL_law_2033 rfl rfl rfl ?_
  refine z_aload_n (pc' := 2035) C 5 dL_law_2034 rfl rfl rfl ?_
  refine z_iload (pc' := 2037) C 1 dL_law_2035 rfl rfl ?_
  refine z_iconst (pc' := 2038) C dL_law_2037 zk_iconst_1 rfl ?_
  refine z_iadd (pc' := 2039) C dL_law_2038 rfl ?_
  refine z_sld (pc' := 2040) C hX hb hw (v := q 1) (hs 1 (by decide)) dL_law_2039 rfl ?_
  refine z_aload_n (pc' := 2041) C 5 dL_law_2040 rfl rfl rfl ?_
  refine z_iload (pc' := 2043) C 1 dL_law_2041 rfl rfl ?_
  refine z_iconst (pc' := 2044) C dL_law_2043 zk_iconst_2 rfl ?_
  refine z_iadd (pc' := 2045) C dL_law_2044 rfl ?_
  refine z_sld (pc' := 2046) C hX hb hw (v := q 2) (hs 2 (by decide)) dL_law_2045 rfl ?_
  refine z_aload_n (pc' := 2047) C 5 dL_law_2046 rfl rfl rfl ?_
  refine z_iload (pc' := 2049) C 1 dL_law_2047 rfl rfl ?_
  refine z_iconst (pc' := 2050) C dL_law_2049 zk_iconst_3 rfl ?_
  refine z_iadd (pc' := 2051) C dL_law_2050 rfl ?_
  refine z_sld (pc' := 2052) C hX hb hw (v := q 3) (hs 3 (by decide)) dL_law_2051 rfl ?_
  refine z_callV (pc' := 2055) (st := []) (h' := gW w h0 σ' ρ' (vp_updL u 0 (v.toInt64))) C (d_X9_measure hN  hg) zy_X9_measure zw_1646 zw_1647 zw_1648 (ci := 9) rfl (gW_c (k := 0) (by omega) rfl) rfl rfl rfl rfl (room_ok hk hn (by dsimp only [zrx, zr]; omega) (by dsimp only [zrx, zr]; omega)) dL_law_2052 rfl ?_
  refine z_istore (pc' := 2057) C _ dL_law_2055 rfl rfl rfl ?_
  refine z_aload_n (pc' := 2058) C 4 dL_law_2057 rfl rfl rfl ?_
  refine z_callV (pc' := 2061) (st := []) (h' := gW w h0 σ' ρ' (vp_updL u 0 (v.toInt64))) C (d_X9_thrown hN (v := md_thrown ρ') rfl) zy_X9_thrown zw_1236 zw_1237 zw_1238 (ci := 9) rfl (gW_c (k := 0) (by omega) rfl) rfl rfl rfl rfl (room_ok hk hn (by dsimp only [zrx, zr]; omega) (by dsimp only [zrx, zr]; omega)) dL_law_2058 rfl ?_
  refine z_iload (pc' := 2063) C 1 dL_law_2061 rfl rfl ?_
  refine z_icmp_eq (pc' := 2066) C 2068 (if_pos ht : (if _ = _ then some () else (none : Option Unit)) = some ()) dL_law_2063 rfl rfl (fun _ _ => ?_) (fun q _ => absurd ht q)
  refine z_iload (pc' := 2070) C 1 dL_law_2068 rfl rfl ?_
  refine z_if_ne (pc' := 2073) C 2085 (if_pos rfl : (if (0 : Int32) = 0 then some () else (none : Option Unit)) = some ()) dL_law_2070 rfl rfl (fun q _ => absurd rfl q) (fun _ _ => ?_)
  refine z_aload_n (pc' := 2074) C 3 dL_law_2073 rfl rfl rfl ?_
  refine z_iconst (pc' := 2075) C dL_law_2074 zk_iconst_0 rfl ?_
  refine z_lald (pc' := 2076) C (K := fun v => some v) rfl (gW_c (k := 6) (by omega) rfl) dL_law_2075 rfl (fun v0 hv0 => ?_)
  cases hv0
  refine z_iload (pc' := 2078) C 0 dL_law_2076 rfl rfl ?_
  refine z_i2l (pc' := 2079) C dL_law_2078 rfl ?_
  refine z_lcmp_eq (pc' := 2083) (pc1 := 2080) C 2085 (if_pos hv : (if _ = _ then some () else (none : Option Unit)) = some ()) dL_law_2079 rfl dL_law_2080 rfl rfl (fun _ _ => ?_) (fun q _ => absurd hv q)
  refine z_goto C 2707 dL_law_2085 rfl ?_
  refine z_pick (lv' := lw_lv w b i) [2, 3, 4, 5, 6] rfl ?_
  exact kk _ _ _ (by dsimp only [zrx, zr]; omega) (by dsimp only [zrx, zr]; omega)
theorem lc_measure_x1 (hN : 396 ≤ N) (hC : lw_C X w b L xs) (hs : lw_sc L xs i q) (hk : k + 12 ≤ 601024) (hn : n + 1000 ≤ 7293033) {b9 : Int32} (hf : f_X8_measure σ (q 1) (q 2) (q 3) = some (.inl ("java/lang/IndexOutOfBoundsException", σ'))) (hg : g_X9_measure ρ (q 1) (q 2) (q 3) = some (b9, ρ')) (ht : md_thrown ρ' = 1) (kk : lw_N X w Q b i N h0 k n σ' ρ') : zZ X w Q k n false N (gW w h0 σ ρ u) 2008 (lw_lv w b i) [] := by
  obtain ⟨C, hX, hb, hw⟩ := hC
  refine z_aload_n (pc' := 2009) C 3 dL_law_2008 rfl rfl rfl ?_
  refine z_aload_n (pc' := 2010) C 4 dL_law_2009 rfl rfl rfl ?_
  refine z_iload (pc' := 2012) C 0 dL_law_2010 rfl rfl ?_
  refine z_iconst (pc' := 2013) C dL_law_2012 zk_iconst_1 rfl ?_
  refine z_iadd (pc' := 2014) C dL_law_2013 rfl ?_
  refine z_sld (pc' := 2015) C hX hb hw (v := q 1) (hs 1 (by decide)) dL_law_2014 rfl ?_
  refine z_aload_n (pc' := 2016) C 4 dL_law_2015 rfl rfl rfl ?_
  refine z_iload (pc' := 2018) C 0 dL_law_2016 rfl rfl ?_
  refine z_iconst (pc' := 2019) C dL_law_2018 zk_iconst_2 rfl ?_
  refine z_iadd (pc' := 2020) C dL_law_2019 rfl ?_
  refine z_sld (pc' := 2021) C hX hb hw (v := q 2) (hs 2 (by decide)) dL_law_2020 rfl ?_
  refine z_aload_n (pc' := 2022) C 4 dL_law_2021 rfl rfl rfl ?_
  refine z_iload (pc' := 2024) C 0 dL_law_2022 rfl rfl ?_
  refine z_iconst (pc' := 2025) C dL_law_2024 zk_iconst_3 rfl ?_
  refine z_iadd (pc' := 2026) C dL_law_2025 rfl ?_
  refine z_sld (pc' := 2027) C hX hb hw (v := q 3) (hs 3 (by decide)) dL_law_2026 rfl ?_
  refine z_aload_n (pc' := 2028) C 1 dL_law_2027 rfl rfl rfl ?_
  refine z_callSW (pc' := 2031) (m := 5) (st := []) (h' := gW w h0 σ' ρ u) C (c_L_measure_1 (a := 0) (c0 := 395) (N := N) (by omega) (by omega) (zc_w (a := 389) (o := 6) (by omega) rfl) hf) zw_1045 zw_0 (by decide +kernel) zw_1043 zw_1044 rfl rfl rfl rfl (room_ok hk hn (by dsimp only [zrx, zr]; omega) (by dsimp only [zrx, zr]; omega)) dL_law_2028 rfl ?_
  refine z_istore (pc' := 2033) C _ dL_law_2031 rfl rfl rfl ?_
  refine z_aload_n (pc' := 2034) C 3 dL_law_2033 rfl rfl rfl ?_
  refine z_aload_n (pc' := 2035) C 5 dL_law_2034 rfl rfl rfl ?_
  refine z_iload (pc' := 2037) C 1 dL_law_2035 rfl rfl ?_
  refine z_iconst (pc' := 2038) C dL_law_2037 zk_iconst_1 rfl ?_
  refine z_iadd (pc' := 2039) C dL_law_2038 rfl ?_
  refine z_sld (pc' := 2040) C hX hb hw (v := q 1) (hs 1 (by decide)) dL_law_2039 rfl ?_
  refine z_aload_n (pc' := 2041) C 5 dL_law_2040 rfl rfl rfl ?_
  refine z_iload (pc' := 2043) C 1 dL_law_2041 rfl rfl ?_
  refine z_iconst (pc' := 2044) C dL_law_2043 zk_iconst_2 rfl ?_
  refine z_iadd (pc' := 2045) C dL_law_2044 rfl ?_
  refine z_sld (pc' := 2046) C hX hb hw (v := q 2) (hs 2 (by decide)) dL_law_2045 rfl ?_
  refine z_aload_n (pc' := 2047) C 5 dL_law_2046 rfl rfl rfl ?_
  refine z_iload (pc' := 2049) C 1 dL_law_2047 rfl rfl ?_
  refine z_iconst (pc' := 2050) C dL_law_2049 zk_iconst_3 rfl ?_
  refine z_iadd (pc' := 2051) C dL_law_2050 rfl ?_
  refine z_sld (pc' := 2052) C hX hb hw (v := q 3) (hs 3 (by decide)) dL_law_2051 rfl ?_
  refine z_callV (pc' := 2055) (st := []) (h' := gW w h0 σ' ρ' u) C (d_X9_measure hN  hg) zy_X9_measure zw_1646 zw_1647 zw_1648 (ci := 9) rfl (gW_c (k := 0) (by omega) rfl) rfl rfl rfl rfl (room_ok hk hn (by dsimp only [zrx, zr]; omega) (by dsimp only [zrx, zr]; omega)) dL_law_2052 rfl ?_
  refine z_istore (pc' := 2057) C _ dL_law_2055 rfl rfl rfl ?_
  refine z_aload_n (pc' := 2058) C 4 dL_law_2057 rfl rfl rfl ?_
  refine z_callV (pc' := 2061) (st := []) (h' := gW w h0 σ' ρ' u) C (d_X9_thrown hN (v := md_thrown ρ') rfl) zy_X9_thrown zw_1236 zw_1237 zw_1238 (ci := 9) rfl (gW_c (k := 0) (by omega) rfl) rfl rfl rfl rfl (room_ok hk hn (by dsimp only [zrx, zr]; omega) (by dsimp only [zrx, zr]; omega)) dL_law_2058 rfl ?_
  refine z_iload (pc' := 2063) C 1 dL_law_2061 rfl rfl ?_
  refine z_icmp_eq (pc' := 2066) C 2068 (if_pos ht : (if _ = _ then some () else (none : Option Unit)) = some ()) dL_law_2063 rfl rfl (fun _ _ => ?_) (fun q _ => absurd ht q)
  refine z_iload (pc' := 2070) C 1 dL_law_2068 rfl rfl ?_
  refine z_if_ne (pc' := 2073) C 2085 (if_neg (by decide) : (if (1 : Int32) = 0 then (none : Option Unit) else some ()) = some ()) dL_law_2070 rfl rfl (fun _ _ => ?_) (fun q _ => absurd q (by decide))
  refine z_goto C 2707 dL_law_2085 rfl ?_
  refine z_pick (lv' := lw_lv w b i) [2, 3, 4, 5, 6] rfl ?_
  exact kk _ _ _ (by dsimp only [zrx, zr]; omega) (by dsimp only [zrx, zr]; omega)
theorem lc_measure_x2 (hN : 396 ≤ N) (hC : lw_C X w b L xs) (hs : lw_sc L xs i q) (hk : k + 12 ≤ 601024) (hn : n + 1000 ≤ 7293033) {b9 : Int32} (hf : f_X8_measure σ (q 1) (q 2) (q 3) = some (.inl ("java/lang/IllegalArgumentException", σ'))) (hg : g_X9_measure ρ (q 1) (q 2) (q 3) = some (b9, ρ')) (ht : md_thrown ρ' = 2) (kk : lw_N X w Q b i N h0 k n σ' ρ') : zZ X w Q k n false N (gW w h0 σ ρ u) 2008 (lw_lv w b i) [] := by
  obtain ⟨C, hX, hb, hw⟩ := hC
  refine z_aload_n (pc' := 2009) C 3 dL_law_2008 rfl rfl rfl ?_
  refine z_aload_n (pc' := 2010) C 4 dL_law_2009 rfl rfl rfl ?_
  refine z_iload (pc' := 2012) C 0 dL_law_2010 rfl rfl ?_
  refine z_iconst (pc' := 2013) C dL_law_2012 zk_iconst_1 rfl ?_
  refine z_iadd (pc' := 2014) C dL_law_2013 rfl ?_
  refine z_sld (pc' := 2015) C hX hb hw (v := q 1) (hs 1 (by decide)) dL_law_2014 rfl ?_
  refine z_aload_n (pc' := 2016) C 4 dL_law_2015 rfl rfl rfl ?_
  refine z_iload (pc' := 2018) C 0 dL_law_2016 rfl rfl ?_
  refine z_iconst (pc' := 2019) C dL_law_2018 zk_iconst_2 rfl ?_
  refine z_iadd (pc' := 2020) C dL_law_2019 rfl ?_
  refine z_sld (pc' := 2021) C hX hb hw (v := q 2) (hs 2 (by decide)) dL_law_2020 rfl ?_
  refine z_aload_n (pc' := 2022) C 4 dL_law_2021 rfl rfl rfl ?_
  refine z_iload (pc' := 2024) C 0 dL_law_2022 rfl rfl ?_
  refine z_iconst (pc' := 2025) C dL_law_2024 zk_iconst_3 rfl ?_
  refine z_iadd (pc' := 2026) C dL_law_2025 rfl ?_
  refine z_sld (pc' := 2027) C hX hb hw (v := q 3) (hs 3 (by decide)) dL_law_2026 rfl ?_
  refine z_aload_n (pc' := 2028) C 1 dL_law_2027 rfl rfl rfl ?_
  refine z_callSW (pc' := 2031) (m := 5) (st := []) (h' := gW w h0 σ' ρ u) C (c_L_measure_2 (a := 0) (c0 := 395) (N := N) (by omega) (by omega) (zc_w (a := 389) (o := 6) (by omega) rfl) hf) zw_1045 zw_0 (by decide +kernel) zw_1043 zw_1044 rfl rfl rfl rfl (room_ok hk hn (by dsimp only [zrx, zr]; omega) (by dsimp only [zrx, zr]; omega)) dL_law_2028 rfl ?_
  refine z_istore (pc' := 2033) C _ dL_law_2031 rfl rfl rfl ?_
  refine z_aload_n (pc' := 2034) C 3 dL_law_2033 rfl rfl rfl ?_
  refine z_aload_n (pc' := 2035) C 5 dL_law_2034 rfl rfl rfl ?_
  refine z_iload (pc' := 2037) C 1 dL_law_2035 rfl rfl ?_
  refine z_iconst (pc' := 2038) C dL_law_2037 zk_iconst_1 rfl ?_
  refine z_iadd (pc' := 2039) C dL_law_2038 rfl ?_
  refine z_sld (pc' := 2040) C hX hb hw (v := q 1) (hs 1 (by decide)) dL_law_2039 rfl ?_
  refine z_aload_n (pc' := 2041) C 5 dL_law_2040 rfl rfl rfl ?_
  refine z_iload (pc' := 2043) C 1 dL_law_2041 rfl rfl ?_
  refine z_iconst (pc' := 2044) C dL_law_2043 zk_iconst_2 rfl ?_
  refine z_iadd (pc' := 2045) C dL_law_2044 rfl ?_
  refine z_sld (pc' := 2046) C hX hb hw (v := q 2) (hs 2 (by decide)) dL_law_2045 rfl ?_
  refine z_aload_n (pc' := 2047) C 5 dL_law_2046 rfl rfl rfl ?_
  refine z_iload (pc' := 2049) C 1 dL_law_2047 rfl rfl ?_
  refine z_iconst (pc' := 2050) C dL_law_2049 zk_iconst_3 rfl ?_
  refine z_iadd (pc' := 2051) C dL_law_2050 rfl ?_
  refine z_sld (pc' := 2052) C hX hb hw (v := q 3) (hs 3 (by decide)) dL_law_2051 rfl ?_
  refine z_callV (pc' := 2055) (st := []) (h' := gW w h0 σ' ρ' u) C (d_X9_measure hN  hg) zy_X9_measure zw_1646 zw_1647 zw_1648 (ci := 9) rfl (gW_c (k := 0) (by omega) rfl) rfl rfl rfl rfl (room_ok hk hn (by dsimp only [zrx, zr]; omega) (by dsimp only [zrx, zr]; omega)) dL_law_2052 rfl ?_
  refine z_istore (pc' := 2057) C _ dL_law_2055 rfl rfl rfl ?_
  refine z_aload_n (pc' := 2058) C 4 dL_law_2057 rfl rfl rfl ?_
  refine z_callV (pc' := 2061) (st := []) (h' := gW w h0 σ' ρ' u) C (d_X9_thrown hN (v := md_thrown ρ') rfl) zy_X9_thrown zw_1236 zw_1237 zw_1238 (ci := 9) rfl (gW_c (k := 0) (by omega) rfl) rfl rfl rfl rfl (room_ok hk hn (by dsimp only [zrx, zr]; omega) (by dsimp only [zrx, zr]; omega)) dL_law_2058 rfl ?_
  refine z_iload (pc' := 2063) C 1 dL_law_2061 rfl rfl ?_
  refine z_icmp_eq (pc' := 2066) C 2068 (if_pos ht : (if _ = _ then some () else (none : Option Unit)) = some ()) dL_law_2063 rfl rfl (fun _ _ => ?_) (fun q _ => absurd ht q)
  refine z_iload (pc' := 2070) C 1 dL_law_2068 rfl rfl ?_
  refine z_if_ne (pc' := 2073) C 2085 (if_neg (by decide) : (if (2 : Int32) = 0 then (none : Option Unit) else some ()) = some ()) dL_law_2070 rfl rfl (fun _ _ => ?_) (fun q _ => absurd q (by decide))
  refine z_goto C 2707 dL_law_2085 rfl ?_
  refine z_pick (lv' := lw_lv w b i) [2, 3, 4, 5, 6] rfl ?_
  exact kk _ _ _ (by dsimp only [zrx, zr]; omega) (by dsimp only [zrx, zr]; omega)
theorem lc_propose (hN : 396 ≤ N) (hC : lw_C X w b L xs) (hs : lw_sc L xs i q) (hk : k + 12 ≤ 601024) (hn : n + 1000 ≤ 7293033) {v : Int32} {b9 : Int32} (hf : f_X8_propose σ (q 1) (q 2) (q 3) = some (.inr (v, σ'))) (hg : g_X9_propose ρ (q 1) (q 2) (q 3) = some (b9, ρ')) (ht : md_thrown ρ' = 0) (hv : v.toInt64 = b9.toInt64) (kk : lw_N X w Q b i N h0 k n σ' ρ') : zZ X w Q k n false N (gW w h0 σ ρ u) 2088 (lw_lv w b i) [] := by
  obtain ⟨C, hX, hb, hw⟩ := hC
  refine z_aload_n (pc' := 2089) C 3 dL_law_2088 rfl rfl rfl ?_
  refine z_aload_n (pc' := 2090) C 4 dL_law_2089 rfl rfl rfl ?_
  refine z_iload (pc' := 2092) C 0 dL_law_2090 rfl rfl ?_
  refine z_iconst (pc' := 2093) C dL_law_2092 zk_iconst_1 rfl ?_
  refine z_iadd (pc' := 2094) C dL_law_2093 rfl ?_
  refine z_sld (pc' := 2095) C hX hb hw (v := q 1) (hs 1 (by decide)) dL_law_2094 rfl ?_
  refine z_aload_n (pc' := 2096) C 4 dL_law_2095 rfl rfl rfl ?_
  refine z_iload (pc' := 2098) C 0 dL_law_2096 rfl rfl ?_
  refine z_iconst (pc' := 2099) C dL_law_2098 zk_iconst_2 rfl ?_
  refine z_iadd (pc' := 2100) C dL_law_2099 rfl ?_
  refine z_sld (pc' := 2101) C hX hb hw (v := q 2) (hs 2 (by decide)) dL_law_2100 rfl ?_
  refine z_aload_n (pc' := 2102) C 4 dL_law_2101 rfl rfl rfl ?_
  refine z_iload (pc' := 2104) C 0 dL_law_2102 rfl rfl ?_
  refine z_iconst (pc' := 2105) C dL_law_2104 zk_iconst_3 rfl ?_
  refine z_iadd (pc' := 2106) C dL_law_2105 rfl ?_
  refine z_sld (pc' := 2107) C hX hb hw (v := q 3) (hs 3 (by decide)) dL_law_2106 rfl ?_
  refine z_aload_n (pc' := 2108) C 1 dL_law_2107 rfl rfl rfl ?_
  refine z_callSW (pc' := 2111) (m := 5) (st := []) (h' := gW w h0 σ' ρ (vp_updL u 0 (v.toInt64))) C (zMw_eq gW_o (c_L_propose (a := 0) (c0 := 395) (N := N) (by omega) (by omega) (zc_w (a := 389) (o := 6) (by omega) rfl) hf)) zw_1052 zw_0 (by decide +kernel) zw_1050 zw_1051 rfl rfl rfl rfl (room_ok hk hn (by dsimp only [zrx, zr]; omega) (by dsimp only [zrx, zr]; omega)) dL_law_2108 rfl ?_
  refine z_istore (pc' := 2113) C _ dL_law_2111 rfl rfl rfl ?_
  refine z_aload_n (pc' := 2114) C 3 dL_law_2113 rfl rfl rfl ?_
  refine z_aload_n (pc' := 2115) C 5 dL_law_2114 rfl rfl rfl ?_
  refine z_iload (pc' := 2117) C 1 dL_law_2115 rfl rfl ?_
  refine z_iconst (pc' := 2118) C dL_law_2117 zk_iconst_1 rfl ?_
  refine z_iadd (pc' := 2119) C dL_law_2118 rfl ?_
  refine z_sld (pc' := 2120) C hX hb hw (v := q 1) (hs 1 (by decide)) dL_law_2119 rfl ?_
  refine z_aload_n (pc' := 2121) C 5 dL_law_2120 rfl rfl rfl ?_
  refine z_iload (pc' := 2123) C 1 dL_law_2121 rfl rfl ?_
  refine z_iconst (pc' := 2124) C dL_law_2123 zk_iconst_2 rfl ?_
  refine z_iadd (pc' := 2125) C dL_law_2124 rfl ?_
  refine z_sld (pc' := 2126) C hX hb hw (v := q 2) (hs 2 (by decide)) dL_law_2125 rfl ?_
  refine z_aload_n (pc' := 2127) C 5 dL_law_2126 rfl rfl rfl ?_
  refine z_iload (pc' := 2129) C 1 dL_law_2127 rfl rfl ?_
  refine z_iconst (pc' := 2130) C dL_law_2129 zk_iconst_3 rfl ?_
  refine z_iadd (pc' := 2131) C dL_law_2130 rfl ?_
  refine z_sld (pc' := 2132) C hX hb hw (v := q 3) (hs 3 (by decide)) dL_law_2131 rfl ?_
  refine z_callV (pc' := 2135) (st := []) (h' := gW w h0 σ' ρ' (vp_updL u 0 (v.toInt64))) C (d_X9_propose hN  hg) zy_X9_propose zw_1650 zw_1651 zw_1652 (ci := 9) rfl (gW_c (k := 0) (by omega) rfl) rfl rfl rfl rfl (room_ok hk hn (by dsimp only [zrx, zr]; omega) (by dsimp only [zrx, zr]; omega)) dL_law_2132 rfl ?_
  refine z_istore (pc' := 2137) C _ dL_law_2135 rfl rfl rfl ?_
  refine z_aload_n (pc' := 2138) C 4 dL_law_2137 rfl rfl rfl ?_
  refine z_callV (pc' := 2141) (st := []) (h' := gW w h0 σ' ρ' (vp_updL u 0 (v.toInt64))) C (d_X9_thrown hN (v := md_thrown ρ') rfl) zy_X9_thrown zw_1236 zw_1237 zw_1238 (ci := 9) rfl (gW_c (k := 0) (by omega) rfl) rfl rfl rfl rfl (room_ok hk hn (by dsimp only [zrx, zr]; omega) (by dsimp only [zrx, zr]; omega)) dL_law_2138 rfl ?_
  refine z_iload (pc' := 2143) C 1 dL_law_2141 rfl rfl ?_
  refine z_icmp_eq (pc' := 2146) C 2148 (if_pos ht : (if _ = _ then some () else (none : Option Unit)) = some ()) dL_law_2143 rfl rfl (fun _ _ => ?_) (fun q _ => absurd ht q)
  refine z_iload (pc' := 2150) C 1 dL_law_2148 rfl rfl ?_
  refine z_if_ne (pc' := 2153) C 2165 (if_pos rfl : (if (0 : Int32) = 0 then some () else (none : Option Unit)) = some ()) dL_law_2150 rfl rfl (fun q _ => absurd rfl q) (fun _ _ => ?_)
  refine z_aload_n (pc' := 2154) C 3 dL_law_2153 rfl rfl rfl ?_
  refine z_iconst (pc' := 2155) C dL_law_2154 zk_iconst_0 rfl ?_
  refine z_lald (pc' := 2156) C (K := fun v => some v) rfl (gW_c (k := 6) (by omega) rfl) dL_law_2155 rfl (fun v0 hv0 => ?_)
  cases hv0
  refine z_iload (pc' := 2158) C 0 dL_law_2156 rfl rfl ?_
  refine z_i2l (pc' := 2159) C dL_law_2158 rfl ?_
  refine z_lcmp_eq (pc' := 2163) (pc1 := 2160) C 2165 (if_pos hv : (if _ = _ then some () else (none : Option Unit)) = some ()) dL_law_2159 rfl dL_law_2160 rfl rfl (fun _ _ => ?_) (fun q _ => absurd hv q)
  refine z_goto C 2707 dL_law_2165 rfl ?_
  refine z_pick (lv' := lw_lv w b i) [2, 3, 4, 5, 6] rfl ?_
  exact kk _ _ _ (by dsimp only [zrx, zr]; omega) (by dsimp only [zrx, zr]; omega)
theorem lc_propose_x1 (hN : 396 ≤ N) (hC : lw_C X w b L xs) (hs : lw_sc L xs i q) (hk : k + 12 ≤ 601024) (hn : n + 1000 ≤ 7293033) {b9 : Int32} (hf : f_X8_propose σ (q 1) (q 2) (q 3) = some (.inl ("java/lang/IndexOutOfBoundsException", σ'))) (hg : g_X9_propose ρ (q 1) (q 2) (q 3) = some (b9, ρ')) (ht : md_thrown ρ' = 1) (kk : lw_N X w Q b i N h0 k n σ' ρ') : zZ X w Q k n false N (gW w h0 σ ρ u) 2088 (lw_lv w b i) [] := by
  obtain ⟨C, hX, hb, hw⟩ := hC
  refine z_aload_n (pc' := 2089) C 3 dL_law_2088 rfl rfl rfl ?_
  refine z_aload_n (pc' := 2090) C 4 dL_law_2089 rfl rfl rfl ?_
  refine z_iload (pc' := 2092) C 0 dL_law_2090 rfl rfl ?_
  refine z_iconst (pc' := 2093) C dL_law_2092 zk_iconst_1 rfl ?_
  refine z_iadd (pc' := 2094) C dL_law_2093 rfl ?_
  refine z_sld (pc' := 2095) C hX hb hw (v := q 1) (hs 1 (by decide)) dL_law_2094 rfl ?_
  refine z_aload_n (pc' := 2096) C 4 dL_law_2095 rfl rfl rfl ?_
  refine z_iload (pc' := 2098) C 0 dL_law_2096 rfl rfl ?_
  refine z_iconst (pc' := 2099) C dL_law_2098 zk_iconst_2 rfl ?_
  refine z_iadd (pc' := 2100) C dL_law_2099 rfl ?_
  refine z_sld (pc' := 2101) C hX hb hw (v := q 2) (hs 2 (by decide)) dL_law_2100 rfl ?_
  refine z_aload_n (pc' := 2102) C 4 dL_law_2101 rfl rfl rfl ?_
  refine z_iload (pc' := 2104) C 0 dL_law_2102 rfl rfl ?_
  refine z_iconst (pc' := 2105) C dL_law_2104 zk_iconst_3 rfl ?_
  refine z_iadd (pc' := 2106) C dL_law_2105 rfl ?_
  refine z_sld (pc' := 2107) C hX hb hw (v := q 3) (hs 3 (by decide)) dL_law_2106 rfl ?_
  refine z_aload_n (pc' := 2108) C 1 dL_law_2107 rfl rfl rfl ?_
  refine z_callSW (pc' := 2111) (m := 5) (st := []) (h' := gW w h0 σ' ρ u) C (c_L_propose_1 (a := 0) (c0 := 395) (N := N) (by omega) (by omega) (zc_w (a := 389) (o := 6) (by omega) rfl) hf) zw_1052 zw_0 (by decide +kernel) zw_1050 zw_1051 rfl rfl rfl rfl (room_ok hk hn (by dsimp only [zrx, zr]; omega) (by dsimp only [zrx, zr]; omega)) dL_law_2108 rfl ?_
  refine z_istore (pc' := 2113) C _ dL_law_2111 rfl rfl rfl ?_
  refine z_aload_n (pc' := 2114) C 3 dL_law_2113 rfl rfl rfl ?_
  refine z_aload_n (pc' := 2115) C 5 dL_law_2114 rfl rfl rfl ?_
  refine z_iload (pc' := 2117) C 1 dL_law_2115 rfl rfl ?_
  refine z_iconst (pc' := 2118) C dL_law_2117 zk_iconst_1 rfl ?_
  refine z_iadd (pc' := 2119) C dL_law_2118 rfl ?_
  refine z_sld (pc' := 2120) C hX hb hw (v := q 1) (hs 1 (by decide)) dL_law_2119 rfl ?_
  refine z_aload_n (pc' := 2121) C 5 dL_law_2120 rfl rfl rfl ?_
  refine z_iload (pc' := 2123) C 1 dL_law_2121 rfl rfl ?_
  refine z_iconst (pc' := 2124) C dL_law_2123 zk_iconst_2 rfl ?_
  refine z_iadd (pc' := 2125) C dL_law_2124 rfl ?_
  refine z_sld (pc' := 2126) C hX hb hw (v := q 2) (hs 2 (by decide)) dL_law_2125 rfl ?_
  refine z_aload_n (pc' := 2127) C 5 dL_law_2126 rfl rfl rfl ?_
  refine z_iload (pc' := 2129) C 1 dL_law_2127 rfl rfl ?_
  refine z_iconst (pc' := 2130) C dL_law_2129 zk_iconst_3 rfl ?_
  refine z_iadd (pc' := 2131) C dL_law_2130 rfl ?_
  refine z_sld (pc' := 2132) C hX hb hw (v := q 3) (hs 3 (by decide)) dL_law_2131 rfl ?_
  refine z_callV (pc' := 2135) (st := []) (h' := gW w h0 σ' ρ' u) C (d_X9_propose hN  hg) zy_X9_propose zw_1650 zw_1651 zw_1652 (ci := 9) rfl (gW_c (k := 0) (by omega) rfl) rfl rfl rfl rfl (room_ok hk hn (by dsimp only [zrx, zr]; omega) (by dsimp only [zrx, zr]; omega)) dL_law_2132 rfl ?_
  refine z_istore (pc' := 2137) C _ dL_law_2135 rfl rfl rfl ?_
  refine z_aload_n (pc' := 2138) C 4 dL_law_2137 rfl rfl rfl ?_
  refine z_callV (pc' := 2141) (st := []) (h' := gW w h0 σ' ρ' u) C (d_X9_thrown hN (v := md_thrown ρ') rfl) zy_X9_thrown zw_1236 zw_1237 zw_1238 (ci := 9) rfl (gW_c (k := 0) (by omega) rfl) rfl rfl rfl rfl (room_ok hk hn (by dsimp only [zrx, zr]; omega) (by dsimp only [zrx, zr]; omega)) dL_law_2138 rfl ?_
  refine z_iload (pc' := 2143) C 1 dL_law_2141 rfl rfl ?_
  refine z_icmp_eq (pc' := 2146) C 2148 (if_pos ht : (if _ = _ then some () else (none : Option Unit)) = some ()) dL_law_2143 rfl rfl (fun _ _ => ?_) (fun q _ => absurd ht q)
  refine z_iload (pc' := 2150) C 1 dL_law_2148 rfl rfl ?_
  refine z_if_ne (pc' := 2153) C 2165 (if_neg (by decide) : (if (1 : Int32) = 0 then (none : Option Unit) else some ()) = some ()) dL_law_2150 rfl rfl (fun _ _ => ?_) (fun q _ => absurd q (by decide))
  refine z_goto C 2707 dL_law_2165 rfl ?_
  refine z_pick (lv' := lw_lv w b i) [2, 3, 4, 5, 6] rfl ?_
  exact kk _ _ _ (by dsimp only [zrx, zr]; omega) (by dsimp only [zrx, zr]; omega)
theorem lc_propose_x2 (hN : 396 ≤ N) (hC : lw_C X w b L xs) (hs : lw_sc L xs i q) (hk : k + 12 ≤ 601024) (hn : n + 1000 ≤ 7293033) {b9 : Int32} (hf : f_X8_propose σ (q 1) (q 2) (q 3) = some (.inl ("java/lang/IllegalArgumentException", σ'))) (hg : g_X9_propose ρ (q 1) (q 2) (q 3) = some (b9, ρ')) (ht : md_thrown ρ' = 2) (kk : lw_N X w Q b i N h0 k n σ' ρ') : zZ X w Q k n false N (gW w h0 σ ρ u) 2088 (lw_lv w b i) [] := by
  obtain ⟨C, hX, hb, hw⟩ := hC
  refine z_aload_n (pc' := 2089) C 3 dL_law_2088 rfl rfl rfl ?_
  refine z_aload_n (pc' := 2090) C 4 dL_law_2089 rfl rfl rfl ?_
  refine z_iload (pc' := 2092) C 0 dL_law_2090 rfl rfl ?_
  refine z_iconst (pc' := 2093) C dL_law_2092 zk_iconst_1 rfl ?_
  refine z_iadd (pc' := 2094) C dL_law_2093 rfl ?_
  refine z_sld (pc' := 2095) C hX hb hw (v := q 1) (hs 1 (by decide)) dL_law_2094 rfl ?_
  refine z_aload_n (pc' := 2096) C 4 dL_law_2095 rfl rfl rfl ?_
  refine z_iload (pc' := 2098) C 0 dL_law_2096 rfl rfl ?_
  refine z_iconst (pc' := 2099) C dL_law_2098 zk_iconst_2 rfl ?_
  refine z_iadd (pc' := 2100) C dL_law_2099 rfl ?_
  refine z_sld (pc' := 2101) C hX hb hw (v := q 2) (hs 2 (by decide)) dL_law_2100 rfl ?_
  refine z_aload_n (pc' := 2102) C 4 dL_law_2101 rfl rfl rfl ?_
  refine z_iload (pc' := 2104) C 0 dL_law_2102 rfl rfl ?_
  refine z_iconst (pc' := 2105) C dL_law_2104 zk_iconst_3 rfl ?_
  refine z_iadd (pc' := 2106) C dL_law_2105 rfl ?_
  refine z_sld (pc' := 2107) C hX hb hw (v := q 3) (hs 3 (by decide)) dL_law_2106 rfl ?_
  refine z_aload_n (pc' := 2108) C 1 dL_law_2107 rfl rfl rfl ?_
  refine z_callSW (pc' := 2111) (m := 5) (st := []) (h' := gW w h0 σ' ρ u) C (c_L_propose_2 (a := 0) (c0 := 395) (N := N) (by omega) (by omega) (zc_w (a := 389) (o := 6) (by omega) rfl) hf) zw_1052 zw_0 (by decide +kernel) zw_1050 zw_1051 rfl rfl rfl rfl (room_ok hk hn (by dsimp only [zrx, zr]; omega) (by dsimp only [zrx, zr]; omega)) dL_law_2108 rfl ?_
  refine z_istore (pc' := 2113) C _ dL_law_2111 rfl rfl rfl ?_
  refine z_aload_n (pc' := 2114) C 3 dL_law_2113 rfl rfl rfl ?_
  refine z_aload_n (pc' := 2115) C 5 dL_law_2114 rfl rfl rfl ?_
  refine z_iload (pc' := 2117) C 1 dL_law_2115 rfl rfl ?_
  refine z_iconst (pc' := 2118) C dL_law_2117 zk_iconst_1 rfl ?_
  refine z_iadd (pc' := 2119) C dL_law_2118 rfl ?_
  refine z_sld (pc' := 2120) C hX hb hw (v := q 1) (hs 1 (by decide)) dL_law_2119 rfl ?_
  refine z_aload_n (pc' := 2121) C 5 dL_law_2120 rfl rfl rfl ?_
  refine z_iload (pc' := 2123) C 1 dL_law_2121 rfl rfl ?_
  refine z_iconst (pc' := 2124) C dL_law_2123 zk_iconst_2 rfl ?_
  refine z_iadd (pc' := 2125) C dL_law_2124 rfl ?_
  refine z_sld (pc' := 2126) C hX hb hw (v := q 2) (hs 2 (by decide)) dL_law_2125 rfl ?_
  refine z_aload_n (pc' := 2127) C 5 dL_law_2126 rfl rfl rfl ?_
  refine z_iload (pc' := 2129) C 1 dL_law_2127 rfl rfl ?_
  refine z_iconst (pc' := 2130) C dL_law_2129 zk_iconst_3 rfl ?_
  refine z_iadd (pc' := 2131) C dL_law_2130 rfl ?_
  refine z_sld (pc' := 2132) C hX hb hw (v := q 3) (hs 3 (by decide)) dL_law_2131 rfl ?_
  refine z_callV (pc' := 2135) (st := []) (h' := gW w h0 σ' ρ' u) C (d_X9_propose hN  hg) zy_X9_propose zw_1650 zw_1651 zw_1652 (ci := 9) rfl (gW_c (k := 0) (by omega) rfl) rfl rfl rfl rfl (room_ok hk hn (by dsimp only [zrx, zr]; omega) (by dsimp only [zrx, zr]; omega)) dL_law_2132 rfl ?_
  refine z_istore (pc' := 2137) C _ dL_law_2135 rfl rfl rfl ?_
  refine z_aload_n (pc' := 2138) C 4 dL_law_2137 rfl rfl rfl ?_
  refine z_callV (pc' := 2141) (st := []) (h' := gW w h0 σ' ρ' u) C (d_X9_thrown hN (v := md_thrown ρ') rfl) zy_X9_thrown zw_1236 zw_1237 zw_1238 (ci := 9) rfl (gW_c (k := 0) (by omega) rfl) rfl rfl rfl rfl (room_ok hk hn (by dsimp only [zrx, zr]; omega) (by dsimp only [zrx, zr]; omega)) dL_law_2138 rfl ?_
  refine z_iload (pc' := 2143) C 1 dL_law_2141 rfl rfl ?_
  refine z_icmp_eq (pc' := 2146) C 2148 (if_pos ht : (if _ = _ then some () else (none : Option Unit)) = some ()) dL_law_2143 rfl rfl (fun _ _ => ?_) (fun q _ => absurd ht q)
  refine z_iload (pc' := 2150) C 1 dL_law_2148 rfl rfl ?_
  refine z_if_ne (pc' := 2153) C 2165 (if_neg (by decide) : (if (2 : Int32) = 0 then (none : Option Unit) else some ()) = some ()) dL_law_2150 rfl rfl (fun _ _ => ?_) (fun q _ => absurd q (by decide))
  refine z_goto C 2707 dL_law_2165 rfl ?_
  refine z_pick (lv' := lw_lv w b i) [2, 3, 4, 5, 6] rfl ?_
  exact kk _ _ _ (by dsimp only [zrx, zr]; omega) (by dsimp only [zrx, zr]; omega)
theorem lc_propose_x3 (hN : 396 ≤ N) (hC : lw_C X w b L xs) (hs : lw_sc L xs i q) (hk : k + 12 ≤ 601024) (hn : n + 1000 ≤ 7293033) {b9 : Int32} (hf : f_X8_propose σ (q 1) (q 2) (q 3) = some (.inl ("java/lang/IllegalStateException", σ'))) (hg : g_X9_propose ρ (q 1) (q 2) (q 3) = some (b9, ρ')) (ht : md_thrown ρ' = 3) (kk : lw_N X w Q b i N h0 k n σ' ρ') : zZ X w Q k n false N (gW w h0 σ ρ u) 2088 (lw_lv w b i) [] := by
  obtain ⟨C, hX, hb, hw⟩ := hC
  refine z_aload_n (pc' := 2089) C 3 dL_law_2088 rfl rfl rfl ?_
  refine z_aload_n (pc' := 2090) C 4 dL_law_2089 rfl rfl rfl ?_
  refine z_iload (pc' := 2092) C 0 dL_law_2090 rfl rfl ?_
  refine z_iconst (pc' := 2093) C dL_law_2092 zk_iconst_1 rfl ?_
  refine z_iadd (pc' := 2094) C dL_law_2093 rfl ?_
  refine z_sld (pc' := 2095) C hX hb hw (v := q 1) (hs 1 (by decide)) dL_law_2094 rfl ?_
  refine z_aload_n (pc' := 2096) C 4 dL_law_2095 rfl rfl rfl ?_
  refine z_iload (pc' := 2098) C 0 dL_law_2096 rfl rfl ?_
  refine z_iconst (pc' := 2099) C dL_law_2098 zk_iconst_2 rfl ?_
  refine z_iadd (pc' := 2100) C dL_law_2099 rfl ?_
  refine z_sld (pc' := 2101) C hX hb hw (v := q 2) (hs 2 (by decide)) dL_law_2100 rfl ?_
  refine z_aload_n (pc' := 2102) C 4 dL_law_2101 rfl rfl rfl ?_
  refine z_iload (pc' := 2104) C 0 dL_law_2102 rfl rfl ?_
  refine z_iconst (pc' := 2105) C dL_law_2104 zk_iconst_3 rfl ?_
  refine z_iadd (pc' := 2106) C dL_law_2105 rfl ?_
  refine z_sld (pc' := 2107) C hX hb hw (v := q 3) (hs 3 (by decide)) dL_law_2106 rfl ?_
  refine z_aload_n (pc' := 2108) C 1 dL_law_2107 rfl rfl rfl ?_
  refine z_callSW (pc' := 2111) (m := 5) (st := []) (h' := gW w h0 σ' ρ u) C (c_L_propose_3 (a := 0) (c0 := 395) (N := N) (by omega) (by omega) (zc_w (a := 389) (o := 6) (by omega) rfl) hf) zw_1052 zw_0 (by decide +kernel) zw_1050 zw_1051 rfl rfl rfl rfl (room_ok hk hn (by dsimp only [zrx, zr]; omega) (by dsimp only [zrx, zr]; omega)) dL_law_2108 rfl ?_
  refine z_istore (pc' := 2113) C _ dL_law_2111 rfl rfl rfl ?_
  refine z_aload_n (pc' := 2114) C 3 dL_law_2113 rfl rfl rfl ?_
  refine z_aload_n (pc' := 2115) C 5 dL_law_2114 rfl rfl rfl ?_
  refine z_iload (pc' := 2117) C 1 dL_law_2115 rfl rfl ?_
  refine z_iconst (pc' := 2118) C dL_law_2117 zk_iconst_1 rfl ?_
  refine z_iadd (pc' := 2119) C dL_law_2118 rfl ?_
  refine z_sld (pc' := 2120) C hX hb hw (v := q 1) (hs 1 (by decide)) dL_law_2119 rfl ?_
  refine z_aload_n (pc' := 2121) C 5 dL_law_2120 rfl rfl rfl ?_
  refine z_iload (pc' := 2123) C 1 dL_law_2121 rfl rfl ?_
  refine z_iconst (pc' := 2124) C dL_law_2123 zk_iconst_2 rfl ?_
  refine z_iadd (pc' := 2125) C dL_law_2124 rfl ?_
  refine z_sld (pc' := 2126) C hX hb hw (v := q 2) (hs 2 (by decide)) dL_law_2125 rfl ?_
  refine z_aload_n (pc' := 2127) C 5 dL_law_2126 rfl rfl rfl ?_
  refine z_iload (pc' := 2129) C 1 dL_law_2127 rfl rfl ?_
  refine z_iconst (pc' := 2130) C dL_law_2129 zk_iconst_3 rfl ?_
  refine z_iadd (pc' := 2131) C dL_law_2130 rfl ?_
  refine z_sld (pc' := 2132) C hX hb hw (v := q 3) (hs 3 (by decide)) dL_law_2131 rfl ?_
  refine z_callV (pc' := 2135) (st := []) (h' := gW w h0 σ' ρ' u) C (d_X9_propose hN  hg) zy_X9_propose zw_1650 zw_1651 zw_1652 (ci := 9) rfl (gW_c (k := 0) (by omega) rfl) rfl rfl rfl rfl (room_ok hk hn (by dsimp only [zrx, zr]; omega) (by dsimp only [zrx, zr]; omega)) dL_law_2132 rfl ?_
  refine z_istore (pc' := 2137) C _ dL_law_2135 rfl rfl rfl ?_
  refine z_aload_n (pc' := 2138) C 4 dL_law_2137 rfl rfl rfl ?_
  refine z_callV (pc' := 2141) (st := []) (h' := gW w h0 σ' ρ' u) C (d_X9_thrown hN (v := md_thrown ρ') rfl) zy_X9_thrown zw_1236 zw_1237 zw_1238 (ci := 9) rfl (gW_c (k := 0) (by omega) rfl) rfl rfl rfl rfl (room_ok hk hn (by dsimp only [zrx, zr]; omega) (by dsimp only [zrx, zr]; omega)) dL_law_2138 rfl ?_
  refine z_iload (pc' := 2143) C 1 dL_law_2141 rfl rfl ?_
  refine z_icmp_eq (pc' := 2146) C 2148 (if_pos ht : (if _ = _ then some () else (none : Option Unit)) = some ()) dL_law_2143 rfl rfl (fun _ _ => ?_) (fun q _ => absurd ht q)
  refine z_iload (pc' := 2150) C 1 dL_law_2148 rfl rfl ?_
  refine z_if_ne (pc' := 2153) C 2165 (if_neg (by decide) : (if (3 : Int32) = 0 then (none : Option Unit) else some ()) = some ()) dL_law_2150 rfl rfl (fun _ _ => ?_) (fun q _ => absurd q (by decide))
  refine z_goto C 2707 dL_law_2165 rfl ?_
  refine z_pick (lv' := lw_lv w b i) [2, 3, 4, 5, 6] rfl ?_
  exact kk _ _ _ (by dsimp only [zrx, zr]; omega) (by dsimp only [zrx, zr]; omega)
theorem lc_approve (hN : 396 ≤ N) (hC : lw_C X w b L xs) (hs : lw_sc L xs i q) (hk : k + 12 ≤ 601024) (hn : n + 1000 ≤ 7293033) {v : Int32} {b9 : Int32} (hf : f_X8_approve σ (q 1) = some (.inr (v, σ'))) (hg : g_X9_approve ρ (q 1) = some (b9, ρ')) (ht : md_thrown ρ' = 0) (hv : v.toInt64 = b9.toInt64) (kk : lw_N X w Q b i N h0 k n σ' ρ') : zZ X w Q k n false N (gW w h0 σ ρ u) 2168 (lw_lv w b i) [] := by
  obtain ⟨C, hX, hb, hw⟩ := hC
  refine z_aload_n (pc' := 2169) C 3 dL_law_2168 rfl rfl rfl ?_
  refine z_aload_n (pc' := 2170) C 4 dL_law_2169 rfl rfl rfl ?_
  refine z_iload (pc' := 2172) C 0 dL_law_2170 rfl rfl ?_
  refine z_iconst (pc' := 2173) C dL_law_2172 zk_iconst_1 rfl ?_
  refine z_iadd (pc' := 2174) C dL_law_2173 rfl ?_
  refine z_sld (pc' := 2175) C hX hb hw (v := q 1) (hs 1 (by decide)) dL_law_2174 rfl ?_
  refine z_aload_n (pc' := 2176) C 1 dL_law_2175 rfl rfl rfl ?_
  refine z_callSW (pc' := 2179) (m := 3) (st := []) (h' := gW w h0 σ' ρ (vp_updL u 0 (v.toInt64))) C (zMw_eq gW_o (c_L_approve (a := 0) (c0 := 395) (N := N) (by omega) (by omega) (zc_w (a := 389) (o := 6) (by omega) rfl) hf)) zw_1084 zw_0 (by decide +kernel) zw_1082 zw_1083 rfl rfl rfl rfl (room_ok hk hn (by dsimp only [zrx, zr]; omega) (by dsimp only [zrx, zr]; omega)) dL_law_2176 rfl ?_
  refine z_istore (pc' := 2181) C _ dL_law_2179 rfl rfl rfl ?_
  refine z_aload_n (pc' := 2182) C 3 dL_law_2181 rfl rfl rfl ?_
  refine z_aload_n (pc' := 2183) C 5 dL_law_2182 rfl rfl rfl ?_
  refine z_iload (pc' := 2185) C 1 dL_law_2183 rfl rfl ?_
  refine z_iconst (pc' := 2186) C dL_law_2185 zk_iconst_1 rfl ?_
  refine z_iadd (pc' := 2187) C dL_law_2186 rfl ?_
  refine z_sld (pc' := 2188) C hX hb hw (v := q 1) (hs 1 (by decide)) dL_law_2187 rfl ?_
  refine z_callV (pc' := 2191) (st := []) (h' := gW w h0 σ' ρ' (vp_updL u 0 (v.toInt64))) C (d_X9_approve hN  hg) zy_X9_approve zw_1657 zw_1658 zw_1659 (ci := 9) rfl (gW_c (k := 0) (by omega) rfl) rfl rfl rfl rfl (room_ok hk hn (by dsimp only [zrx, zr]; omega) (by dsimp only [zrx, zr]; omega)) dL_law_2188 rfl ?_
  refine z_istore (pc' := 2193) C _ dL_law_2191 rfl rfl rfl ?_
  refine z_aload_n (pc' := 2194) C 4 dL_law_2193 rfl rfl rfl ?_
  refine z_callV (pc' := 2197) (st := []) (h' := gW w h0 σ' ρ' (vp_updL u 0 (v.toInt64))) C (d_X9_thrown hN (v := md_thrown ρ') rfl) zy_X9_thrown zw_1236 zw_1237 zw_1238 (ci := 9) rfl (gW_c (k := 0) (by omega) rfl) rfl rfl rfl rfl (room_ok hk hn (by dsimp only [zrx, zr]; omega) (by dsimp only [zrx, zr]; omega)) dL_law_2194 rfl ?_
  refine z_iload (pc' := 2199) C 1 dL_law_2197 rfl rfl ?_
  refine z_icmp_eq (pc' := 2202) C 2204 (if_pos ht : (if _ = _ then some () else (none : Option Unit)) = some ()) dL_law_2199 rfl rfl (fun _ _ => ?_) (fun q _ => absurd ht q)
  refine z_iload (pc' := 2206) C 1 dL_law_2204 rfl rfl ?_
  refine z_if_ne (pc' := 2209) C 2221 (if_pos rfl : (if (0 : Int32) = 0 then some () else (none : Option Unit)) = some ()) dL_law_2206 rfl rfl (fun q _ => absurd rfl q) (fun _ _ => ?_)
  refine z_aload_n (pc' := 2210) C 3 dL_law_2209 rfl rfl rfl ?_
  refine z_iconst (pc' := 2211) C dL_law_2210 zk_iconst_0 rfl ?_
  refine z_lald (pc' := 2212) C (K := fun v => some v) rfl (gW_c (k := 6) (by omega) rfl) dL_law_2211 rfl (fun v0 hv0 => ?_)
  cases hv0
  refine z_iload (pc' := 2214) C 0 dL_law_2212 rfl rfl ?_
  refine z_i2l (pc' := 2215) C dL_law_2214 rfl ?_
  refine z_lcmp_eq (pc' := 2219) (pc1 := 2216) C 2221 (if_pos hv : (if _ = _ then some () else (none : Option Unit)) = some ()) dL_law_2215 rfl dL_law_2216 rfl rfl (fun _ _ => ?_) (fun q _ => absurd hv q)
  refine z_goto C 2707 dL_law_2221 rfl ?_
  refine z_pick (lv' := lw_lv w b i) [2, 3, 4, 5, 6] rfl ?_
  exact kk _ _ _ (by dsimp only [zrx, zr]; omega) (by dsimp only [zrx, zr]; omega)
theorem lc_approve_x1 (hN : 396 ≤ N) (hC : lw_C X w b L xs) (hs : lw_sc L xs i q) (hk : k + 12 ≤ 601024) (hn : n + 1000 ≤ 7293033) {b9 : Int32} (hf : f_X8_approve σ (q 1) = some (.inl ("java/lang/IndexOutOfBoundsException", σ'))) (hg : g_X9_approve ρ (q 1) = some (b9, ρ')) (ht : md_thrown ρ' = 1) (kk : lw_N X w Q b i N h0 k n σ' ρ') : zZ X w Q k n false N (gW w h0 σ ρ u) 2168 (lw_lv w b i) [] := by
  obtain ⟨C, hX, hb, hw⟩ := hC
  refine z_aload_n (pc' := 2169) C 3 dL_law_2168 rfl rfl rfl ?_
  refine z_aload_n (pc' := 2170) C 4 dL_law_2169 rfl rfl rfl ?_
  refine z_iload (pc' := 2172) C 0 dL_law_2170 rfl rfl ?_
  refine z_iconst (pc' := 2173) C dL_law_2172 zk_iconst_1 rfl ?_
  refine z_iadd (pc' := 2174) C dL_law_2173 rfl ?_
  refine z_sld (pc' := 2175) C hX hb hw (v := q 1) (hs 1 (by decide)) dL_law_2174 rfl ?_
  refine z_aload_n (pc' := 2176) C 1 dL_law_2175 rfl rfl rfl ?_
  refine z_callSW (pc' := 2179) (m := 3) (st := []) (h' := gW w h0 σ' ρ u) C (c_L_approve_1 (a := 0) (c0 := 395) (N := N) (by omega) (by omega) (zc_w (a := 389) (o := 6) (by omega) rfl) hf) zw_1084 zw_0 (by decide +kernel) zw_1082 zw_1083 rfl rfl rfl rfl (room_ok hk hn (by dsimp only [zrx, zr]; omega) (by dsimp only [zrx, zr]; omega)) dL_law_2176 rfl ?_
  refine z_istore (pc' := 2181) C _ dL_law_2179 rfl rfl rfl ?_
  refine z_aload_n (pc' := 2182) C 3 dL_law_2181 rfl rfl rfl ?_
  refine z_aload_n (pc' := 2183) C 5 dL_law_2182 rfl rfl rfl ?_
  refine z_iload (pc' := 2185) C 1 dL_law_2183 rfl rfl ?_
  refine z_iconst (pc' := 2186) C dL_law_2185 zk_iconst_1 rfl ?_
  refine z_iadd (pc' := 2187) C dL_law_2186 rfl ?_
  refine z_sld (pc' := 2188) C hX hb hw (v := q 1) (hs 1 (by decide)) dL_law_2187 rfl ?_
  refine z_callV (pc' := 2191) (st := []) (h' := gW w h0 σ' ρ' u) C (d_X9_approve hN  hg) zy_X9_approve zw_1657 zw_1658 zw_1659 (ci := 9) rfl (gW_c (k := 0) (by omega) rfl) rfl rfl rfl rfl (room_ok hk hn (by dsimp only [zrx, zr]; omega) (by dsimp only [zrx, zr]; omega)) dL_law_2188 rfl ?_
  refine z_istore (pc' := 2193) C _ dL_law_2191 rfl rfl rfl ?_
  refine z_aload_n (pc' := 2194) C 4 dL_law_2193 rfl rfl rfl ?_
  refine z_callV (pc' := 2197) (st := []) (h' := gW w h0 σ' ρ' u) C (d_X9_thrown hN (v := md_thrown ρ') rfl) zy_X9_thrown zw_1236 zw_1237 zw_1238 (ci := 9) rfl (gW_c (k := 0) (by omega) rfl) rfl rfl rfl rfl (room_ok hk hn (by dsimp only [zrx, zr]; omega) (by dsimp only [zrx, zr]; omega)) dL_law_2194 rfl ?_
  refine z_iload (pc' := 2199) C 1 dL_law_2197 rfl rfl ?_
  refine z_icmp_eq (pc' := 2202) C 2204 (if_pos ht : (if _ = _ then some () else (none : Option Unit)) = some ()) dL_law_2199 rfl rfl (fun _ _ => ?_) (fun q _ => absurd ht q)
  refine z_iload (pc' := 2206) C 1 dL_law_2204 rfl rfl ?_
  refine z_if_ne (pc' := 2209) C 2221 (if_neg (by decide) : (if (1 : Int32) = 0 then (none : Option Unit) else some ()) = some ()) dL_law_2206 rfl rfl (fun _ _ => ?_) (fun q _ => absurd q (by decide))
  refine z_goto C 2707 dL_law_2221 rfl ?_
  refine z_pick (lv' := lw_lv w b i) [2, 3, 4, 5, 6] rfl ?_
  exact kk _ _ _ (by dsimp only [zrx, zr]; omega) (by dsimp only [zrx, zr]; omega)
theorem lc_approve_x2 (hN : 396 ≤ N) (hC : lw_C X w b L xs) (hs : lw_sc L xs i q) (hk : k + 12 ≤ 601024) (hn : n + 1000 ≤ 7293033) {b9 : Int32} (hf : f_X8_approve σ (q 1) = some (.inl ("java/lang/IllegalStateException", σ'))) (hg : g_X9_approve ρ (q 1) = some (b9, ρ')) (ht : md_thrown ρ' = 2) (kk : lw_N X w Q b i N h0 k n σ' ρ') : zZ X w Q k n false N (gW w h0 σ ρ u) 2168 (lw_lv w b i) [] := by
  obtain ⟨C, hX, hb, hw⟩ := hC
  refine z_aload_n (pc' := 2169) C 3 dL_law_2168 rfl rfl rfl ?_
  refine z_aload_n (pc' := 2170) C 4 dL_law_2169 rfl rfl rfl ?_
  refine z_iload (pc' := 2172) C 0 dL_law_2170 rfl rfl ?_
  refine z_iconst (pc' := 2173) C dL_law_2172 zk_iconst_1 rfl ?_
  refine z_iadd (pc' := 2174) C dL_law_2173 rfl ?_
  refine z_sld (pc' := 2175) C hX hb hw (v := q 1) (hs 1 (by decide)) dL_law_2174 rfl ?_
  refine z_aload_n (pc' := 2176) C 1 dL_law_2175 rfl rfl rfl ?_
  refine z_callSW (pc' := 2179) (m := 3) (st := []) (h' := gW w h0 σ' ρ u) C (c_L_approve_2 (a := 0) (c0 := 395) (N := N) (by omega) (by omega) (zc_w (a := 389) (o := 6) (by omega) rfl) hf) zw_1084 zw_0 (by decide +kernel) zw_1082 zw_1083 rfl rfl rfl rfl (room_ok hk hn (by dsimp only [zrx, zr]; omega) (by dsimp only [zrx, zr]; omega)) dL_law_2176 rfl ?_
  refine z_istore (pc' := 2181) C _ dL_law_2179 rfl rfl rfl ?_
  refine z_aload_n (pc' := 2182) C 3 dL_law_2181 rfl rfl rfl ?_
  refine z_aload_n (pc' := 2183) C 5 dL_law_2182 rfl rfl rfl ?_
  refine z_iload (pc' := 2185) C 1 dL_law_2183 rfl rfl ?_
  refine z_iconst (pc' := 2186) C dL_law_2185 zk_iconst_1 rfl ?_
  refine z_iadd (pc' := 2187) C dL_law_2186 rfl ?_
  refine z_sld (pc' := 2188) C hX hb hw (v := q 1) (hs 1 (by decide)) dL_law_2187 rfl ?_
  refine z_callV (pc' := 2191) (st := []) (h' := gW w h0 σ' ρ' u) C (d_X9_approve hN  hg) zy_X9_approve zw_1657 zw_1658 zw_1659 (ci := 9) rfl (gW_c (k := 0) (by omega) rfl) rfl rfl rfl rfl (room_ok hk hn (by dsimp only [zrx, zr]; omega) (by dsimp only [zrx, zr]; omega)) dL_law_2188 rfl ?_
  refine z_istore (pc' := 2193) C _ dL_law_2191 rfl rfl rfl ?_
  refine z_aload_n (pc' := 2194) C 4 dL_law_2193 rfl rfl rfl ?_
  refine z_callV (pc' := 2197) (st := []) (h' := gW w h0 σ' ρ' u) C (d_X9_thrown hN (v := md_thrown ρ') rfl) zy_X9_thrown zw_1236 zw_1237 zw_1238 (ci := 9) rfl (gW_c (k := 0) (by omega) rfl) rfl rfl rfl rfl (room_ok hk hn (by dsimp only [zrx, zr]; omega) (by dsimp only [zrx, zr]; omega)) dL_law_2194 rfl ?_
  refine z_iload (pc' := 2199) C 1 dL_law_2197 rfl rfl ?_
  refine z_icmp_eq (pc' := 2202) C 2204 (if_pos ht : (if _ = _ then some () else (none : Option Unit)) = some ()) dL_law_2199 rfl rfl (fun _ _ => ?_) (fun q _ => absurd ht q)
  refine z_iload (pc' := 2206) C 1 dL_law_2204 rfl rfl ?_
  refine z_if_ne (pc' := 2209) C 2221 (if_neg (by decide) : (if (2 : Int32) = 0 then (none : Option Unit) else some ()) = some ()) dL_law_2206 rfl rfl (fun _ _ => ?_) (fun q _ => absurd q (by decide))
  refine z_goto C 2707 dL_law_2221 rfl ?_
  refine z_pick (lv' := lw_lv w b i) [2, 3, 4, 5, 6] rfl ?_
  exact kk _ _ _ (by dsimp only [zrx, zr]; omega) (by dsimp only [zrx, zr]; omega)
theorem lc_certify (hN : 396 ≤ N) (hC : lw_C X w b L xs) (hs : lw_sc L xs i q) (hk : k + 12 ≤ 601024) (hn : n + 1000 ≤ 7293033) (hG : PgW w N 0 (zu h0 389 (mL w ρ u)) σ) {v : Int32} {b9 : Int32} (hf : f_X8_certify σ (q 1) = some (.inr (v, σ'))) (hg : g_X9_certify ρ (q 1) = some (b9, ρ')) (ht : md_thrown ρ' = 0) (hv : v.toInt64 = b9.toInt64) (kk : lw_N X w Q b i N h0 k n σ' ρ') : zZ X w Q k n false N (gW w h0 σ ρ u) 2224 (lw_lv w b i) [] := by
  obtain ⟨C, hX, hb, hw⟩ := hC
  refine z_aload_n (pc' := 2225) C 3 dL_law_2224 rfl rfl rfl ?_
  refine z_aload_n (pc' := 2226) C 4 dL_law_2225 rfl rfl rfl ?_
  refine z_iload (pc' := 2228) C 0 dL_law_2226 rfl rfl ?_
  refine z_iconst (pc' := 2229) C dL_law_2228 zk_iconst_1 rfl ?_
  refine z_iadd (pc' := 2230) C dL_law_2229 rfl ?_
  refine z_sld (pc' := 2231) C hX hb hw (v := q 1) (hs 1 (by decide)) dL_law_2230 rfl ?_
  refine z_aload_n (pc' := 2232) C 1 dL_law_2231 rfl rfl rfl ?_
  refine z_callSW (pc' := 2235) (m := 3) (st := []) (h' := gW w h0 σ' ρ (vp_updL u 0 (v.toInt64))) C (zMw_eq gW_o (c_L_certify (a := 0) (c0 := 395) (N := N) (by omega) (by omega) (zc_w (a := 389) (o := 6) (by omega) rfl) hG hf)) zw_1092 zw_0 (by decide +kernel) zw_1090 zw_1091 rfl rfl rfl rfl (room_ok hk hn (by dsimp only [zrx, zr]; omega) (by dsimp only [zrx, zr]; omega)) dL_law_2232 rfl ?_
  refine z_istore (pc' := 2237) C _ dL_law_2235 rfl rfl rfl ?_
  refine z_aload_n (pc' := 2238) C 3 dL_law_2237 rfl rfl rfl ?_
  refine z_aload_n (pc' := 2239) C 5 dL_law_2238 rfl rfl rfl ?_
  refine z_iload (pc' := 2241) C 1 dL_law_2239 rfl rfl ?_
  refine z_iconst (pc' := 2242) C dL_law_2241 zk_iconst_1 rfl ?_
  refine z_iadd (pc' := 2243) C dL_law_2242 rfl ?_
  refine z_sld (pc' := 2244) C hX hb hw (v := q 1) (hs 1 (by decide)) dL_law_2243 rfl ?_
  refine z_callV (pc' := 2247) (st := []) (h' := gW w h0 σ' ρ' (vp_updL u 0 (v.toInt64))) C (d_X9_certify hN  hg) zy_X9_certify zw_1661 zw_1662 zw_1663 (ci := 9) rfl (gW_c (k := 0) (by omega) rfl) rfl rfl rfl rfl (room_ok hk hn (by dsimp only [zrx, zr]; omega) (by dsimp only [zrx, zr]; omega)) dL_law_2244 rfl ?_
  refine z_istore (pc' := 2249) C _ dL_law_2247 rfl rfl rfl ?_
  refine z_aload_n (pc' := 2250) C 4 dL_law_2249 rfl rfl rfl ?_
  refine z_callV (pc' := 2253) (st := []) (h' := gW w h0 σ' ρ' (vp_updL u 0 (v.toInt64))) C (d_X9_thrown hN (v := md_thrown ρ') rfl) zy_X9_thrown zw_1236 zw_1237 zw_1238 (ci := 9) rfl (gW_c (k := 0) (by omega) rfl) rfl rfl rfl rfl (room_ok hk hn (by dsimp only [zrx, zr]; omega) (by dsimp only [zrx, zr]; omega)) dL_law_2250 rfl ?_
  refine z_iload (pc' := 2255) C 1 dL_law_2253 rfl rfl ?_
  refine z_icmp_eq (pc' := 2258) C 2260 (if_pos ht : (if _ = _ then some () else (none : Option Unit)) = some ()) dL_law_2255 rfl rfl (fun _ _ => ?_) (fun q _ => absurd ht q)
  refine z_iload (pc' := 2262) C 1 dL_law_2260 rfl rfl ?_
  refine z_if_ne (pc' := 2265) C 2277 (if_pos rfl : (if (0 : Int32) = 0 then some () else (none : Option Unit)) = some ()) dL_law_2262 rfl rfl (fun q _ => absurd rfl q) (fun _ _ => ?_)
  refine z_aload_n (pc' := 2266) C 3 dL_law_2265 rfl rfl rfl ?_
  refine z_iconst (pc' := 2267) C dL_law_2266 zk_iconst_0 rfl ?_
  refine z_lald (pc' := 2268) C (K := fun v => some v) rfl (gW_c (k := 6) (by omega) rfl) dL_law_2267 rfl (fun v0 hv0 => ?_)
  cases hv0
  refine z_iload (pc' := 2270) C 0 dL_law_2268 rfl rfl ?_
  refine z_i2l (pc' := 2271) C dL_law_2270 rfl ?_
  refine z_lcmp_eq (pc' := 2275) (pc1 := 2272) C 2277 (if_pos hv : (if _ = _ then some () else (none : Option Unit)) = some ()) dL_law_2271 rfl dL_law_2272 rfl rfl (fun _ _ => ?_) (fun q _ => absurd hv q)
  refine z_goto C 2707 dL_law_2277 rfl ?_
  refine z_pick (lv' := lw_lv w b i) [2, 3, 4, 5, 6] rfl ?_
  exact kk _ _ _ (by dsimp only [zrx, zr]; omega) (by dsimp only [zrx, zr]; omega)
theorem lc_certify_x1 (hN : 396 ≤ N) (hC : lw_C X w b L xs) (hs : lw_sc L xs i q) (hk : k + 12 ≤ 601024) (hn : n + 1000 ≤ 7293033) (hG : PgW w N 0 (zu h0 389 (mL w ρ u)) σ) {b9 : Int32} (hf : f_X8_certify σ (q 1) = some (.inl ("java/lang/IndexOutOfBoundsException", σ'))) (hg : g_X9_certify ρ (q 1) = some (b9, ρ')) (ht : md_thrown ρ' = 1) (kk : lw_N X w Q b i N h0 k n σ' ρ') : zZ X w Q k n false N (gW w h0 σ ρ u) 2224 (lw_lv w b i) [] := by
  obtain ⟨C, hX, hb, hw⟩ := hC
  refine z_aload_n (pc' := 2225) C 3 dL_law_2224 rfl rfl rfl ?_
  refine z_aload_n (pc' := 2226) C 4 dL_law_2225 rfl rfl rfl ?_
  refine z_iload (pc' := 2228) C 0 dL_law_2226 rfl rfl ?_
  refine z_iconst (pc' := 2229) C dL_law_2228 zk_iconst_1 rfl ?_
  refine z_iadd (pc' := 2230) C dL_law_2229 rfl ?_
  refine z_sld (pc' := 2231) C hX hb hw (v := q 1) (hs 1 (by decide)) dL_law_2230 rfl ?_
  refine z_aload_n (pc' := 2232) C 1 dL_law_2231 rfl rfl rfl ?_
  refine z_callSW (pc' := 2235) (m := 3) (st := []) (h' := gW w h0 σ' ρ u) C (c_L_certify_1 (a := 0) (c0 := 395) (N := N) (by omega) (by omega) (zc_w (a := 389) (o := 6) (by omega) rfl) hG hf) zw_1092 zw_0 (by decide +kernel) zw_1090 zw_1091 rfl rfl rfl rfl (room_ok hk hn (by dsimp only [zrx, zr]; omega) (by dsimp only [zrx, zr]; omega)) dL_law_2232 rfl ?_
  refine z_istore (pc' := 2237) C _ dL_law_2235 rfl rfl rfl ?_
  refine z_aload_n (pc' := 2238) C 3 dL_law_2237 rfl rfl rfl ?_
  refine z_aload_n (pc' := 2239) C 5 dL_law_2238 rfl rfl rfl ?_
  refine z_iload (pc' := 2241) C 1 dL_law_2239 rfl rfl ?_
  refine z_iconst (pc' := 2242) C dL_law_2241 zk_iconst_1 rfl ?_
  refine z_iadd (pc' := 2243) C dL_law_2242 rfl ?_
  refine z_sld (pc' := 2244) C hX hb hw (v := q 1) (hs 1 (by decide)) dL_law_2243 rfl ?_
  refine z_callV (pc' := 2247) (st := []) (h' := gW w h0 σ' ρ' u) C (d_X9_certify hN  hg) zy_X9_certify zw_1661 zw_1662 zw_1663 (ci := 9) rfl (gW_c (k := 0) (by omega) rfl) rfl rfl rfl rfl (room_ok hk hn (by dsimp only [zrx, zr]; omega) (by dsimp only [zrx, zr]; omega)) dL_law_2244 rfl ?_
  refine z_istore (pc' := 2249) C _ dL_law_2247 rfl rfl rfl ?_
  refine z_aload_n (pc' := 2250) C 4 dL_law_2249 rfl rfl rfl ?_
  refine z_callV (pc' := 2253) (st := []) (h' := gW w h0 σ' ρ' u) C (d_X9_thrown hN (v := md_thrown ρ') rfl) zy_X9_thrown zw_1236 zw_1237 zw_1238 (ci := 9) rfl (gW_c (k := 0) (by omega) rfl) rfl rfl rfl rfl (room_ok hk hn (by dsimp only [zrx, zr]; omega) (by dsimp only [zrx, zr]; omega)) dL_law_2250 rfl ?_
  refine z_iload (pc' := 2255) C 1 dL_law_2253 rfl rfl ?_
  refine z_icmp_eq (pc' := 2258) C 2260 (if_pos ht : (if _ = _ then some () else (none : Option Unit)) = some ()) dL_law_2255 rfl rfl (fun _ _ => ?_) (fun q _ => absurd ht q)
  refine z_iload (pc' := 2262) C 1 dL_law_2260 rfl rfl ?_
  refine z_if_ne (pc' := 2265) C 2277 (if_neg (by decide) : (if (1 : Int32) = 0 then (none : Option Unit) else some ()) = some ()) dL_law_2262 rfl rfl (fun _ _ => ?_) (fun q _ => absurd q (by decide))
  refine z_goto C 2707 dL_law_2277 rfl ?_
  refine z_pick (lv' := lw_lv w b i) [2, 3, 4, 5, 6] rfl ?_
  exact kk _ _ _ (by dsimp only [zrx, zr]; omega) (by dsimp only [zrx, zr]; omega)
theorem lc_certify_x2 (hN : 396 ≤ N) (hC : lw_C X w b L xs) (hs : lw_sc L xs i q) (hk : k + 12 ≤ 601024) (hn : n + 1000 ≤ 7293033) (hG : PgW w N 0 (zu h0 389 (mL w ρ u)) σ) {b9 : Int32} (hf : f_X8_certify σ (q 1) = some (.inl ("java/lang/IllegalStateException", σ'))) (hg : g_X9_certify ρ (q 1) = some (b9, ρ')) (ht : md_thrown ρ' = 2) (kk : lw_N X w Q b i N h0 k n σ' ρ') : zZ X w Q k n false N (gW w h0 σ ρ u) 2224 (lw_lv w b i) [] := by
  obtain ⟨C, hX, hb, hw⟩ := hC
  refine z_aload_n (pc' := 2225) C 3 dL_law_2224 rfl rfl rfl ?_
  refine z_aload_n (pc' := 2226) C 4 dL_law_2225 rfl rfl rfl ?_
  refine z_iload (pc' := 2228) C 0 dL_law_2226 rfl rfl ?_
  refine z_iconst (pc' := 2229) C dL_law_2228 zk_iconst_1 rfl ?_
  refine z_iadd (pc' := 2230) C dL_law_2229 rfl ?_
  refine z_sld (pc' := 2231) C hX hb hw (v := q 1) (hs 1 (by decide)) dL_law_2230 rfl ?_
  refine z_aload_n (pc' := 2232) C 1 dL_law_2231 rfl rfl rfl ?_
  refine z_callSW (pc' := 2235) (m := 3) (st := []) (h' := gW w h0 σ' ρ u) C (c_L_certify_2 (a := 0) (c0 := 395) (N := N) (by omega) (by omega) (zc_w (a := 389) (o := 6) (by omega) rfl) hG hf) zw_1092 zw_0 (by decide +kernel) zw_1090 zw_1091 rfl rfl rfl rfl (room_ok hk hn (by dsimp only [zrx, zr]; omega) (by dsimp only [zrx, zr]; omega)) dL_law_2232 rfl ?_
  refine z_istore (pc' := 2237) C _ dL_law_2235 rfl rfl rfl ?_
  refine z_aload_n (pc' := 2238) C 3 dL_law_2237 rfl rfl rfl ?_
  refine z_aload_n (pc' := 2239) C 5 dL_law_2238 rfl rfl rfl ?_
  refine z_iload (pc' := 2241) C 1 dL_law_2239 rfl rfl ?_
  refine z_iconst (pc' := 2242) C dL_law_2241 zk_iconst_1 rfl ?_
  refine z_iadd (pc' := 2243) C dL_law_2242 rfl ?_
  refine z_sld (pc' := 2244) C hX hb hw (v := q 1) (hs 1 (by decide)) dL_law_2243 rfl ?_
  refine z_callV (pc' := 2247) (st := []) (h' := gW w h0 σ' ρ' u) C (d_X9_certify hN  hg) zy_X9_certify zw_1661 zw_1662 zw_1663 (ci := 9) rfl (gW_c (k := 0) (by omega) rfl) rfl rfl rfl rfl (room_ok hk hn (by dsimp only [zrx, zr]; omega) (by dsimp only [zrx, zr]; omega)) dL_law_2244 rfl ?_
  refine z_istore (pc' := 2249) C _ dL_law_2247 rfl rfl rfl ?_
  refine z_aload_n (pc' := 2250) C 4 dL_law_2249 rfl rfl rfl ?_
  refine z_callV (pc' := 2253) (st := []) (h' := gW w h0 σ' ρ' u) C (d_X9_thrown hN (v := md_thrown ρ') rfl) zy_X9_thrown zw_1236 zw_1237 zw_1238 (ci := 9) rfl (gW_c (k := 0) (by omega) rfl) rfl rfl rfl rfl (room_ok hk hn (by dsimp only [zrx, zr]; omega) (by dsimp only [zrx, zr]; omega)) dL_law_2250 rfl ?_
  refine z_iload (pc' := 2255) C 1 dL_law_2253 rfl rfl ?_
  refine z_icmp_eq (pc' := 2258) C 2260 (if_pos ht : (if _ = _ then some () else (none : Option Unit)) = some ()) dL_law_2255 rfl rfl (fun _ _ => ?_) (fun q _ => absurd ht q)
  refine z_iload (pc' := 2262) C 1 dL_law_2260 rfl rfl ?_
  refine z_if_ne (pc' := 2265) C 2277 (if_neg (by decide) : (if (2 : Int32) = 0 then (none : Option Unit) else some ()) = some ()) dL_law_2262 rfl rfl (fun _ _ => ?_) (fun q _ => absurd q (by decide))
  refine z_goto C 2707 dL_law_2277 rfl ?_
  refine z_pick (lv' := lw_lv w b i) [2, 3, 4, 5, 6] rfl ?_
  exact kk _ _ _ (by dsimp only [zrx, zr]; omega) (by dsimp only [zrx, zr]; omega)
theorem lc_nextStage (hN : 396 ≤ N) (hC : lw_C X w b L xs) (hs : lw_sc L xs i q) (hk : k + 12 ≤ 601024) (hn : n + 1000 ≤ 7293033) {v : Int32} {b9 : Int32} (hf : f_X8_nextStage σ (q 1) = some (.inr (v, σ'))) (hg : g_X9_nextStage ρ (q 1) = some (b9, ρ')) (ht : md_thrown ρ' = 0) (hv : v.toInt64 = b9.toInt64) (kk : lw_N X w Q b i N h0 k n σ' ρ') : zZ X w Q k n false N (gW w h0 σ ρ u) 2280 (lw_lv w b i) [] := by
  obtain ⟨C, hX, hb, hw⟩ := hC
  refine z_aload_n (pc' := 2281) C 3 dL_law_2280 rfl rfl rfl ?_
  refine z_aload_n (pc' := 2282) C 4 dL_law_2281 rfl rfl rfl ?_
  refine z_iload (pc' := 2284) C 0 dL_law_2282 rfl rfl ?_
  refine z_iconst (pc' := 2285) C dL_law_2284 zk_iconst_1 rfl ?_
  refine z_iadd (pc' := 2286) C dL_law_2285 rfl ?_
  refine z_sld (pc' := 2287) C hX hb hw (v := q 1) (hs 1 (by decide)) dL_law_2286 rfl ?_
  refine z_aload_n (pc' := 2288) C 1 dL_law_2287 rfl rfl rfl ?_
  refine z_callSW (pc' := 2291) (m := 3) (st := []) (h' := gW w h0 σ' ρ (vp_updL u 0 (v.toInt64))) C (zMw_eq gW_o (c_L_nextStage (a := 0) (c0 := 395) (N := N) (by omega) (by omega) (zc_w (a := 389) (o := 6) (by omega) rfl) hf)) zw_1108 zw_0 (by decide +kernel) zw_1106 zw_1107 rfl rfl rfl rfl (room_ok hk hn (by dsimp only [zrx, zr]; omega) (by dsimp only [zrx, zr]; omega)) dL_law_2288 rfl ?_
  refine z_istore (pc' := 2293) C _ dL_law_2291 rfl rfl rfl ?_
  refine z_aload_n (pc' := 2294) C 3 dL_law_2293 rfl rfl rfl ?_
  refine z_aload_n (pc' := 2295) C 5 dL_law_2294 rfl rfl rfl ?_
  refine z_iload (pc' := 2297) C 1 dL_law_2295 rfl rfl ?_
  refine z_iconst (pc' := 2298) C dL_law_2297 zk_iconst_1 rfl ?_
  refine z_iadd (pc' := 2299) C dL_law_2298 rfl ?_
  refine z_sld (pc' := 2300) C hX hb hw (v := q 1) (hs 1 (by decide)) dL_law_2299 rfl ?_
  refine z_callV (pc' := 2303) (st := []) (h' := gW w h0 σ' ρ' (vp_updL u 0 (v.toInt64))) C (d_X9_nextStage hN  hg) zy_X9_nextStage zw_1666 zw_1667 zw_1668 (ci := 9) rfl (gW_c (k := 0) (by omega) rfl) rfl rfl rfl rfl (room_ok hk hn (by dsimp only [zrx, zr]; omega) (by dsimp only [zrx, zr]; omega)) dL_law_2300 rfl ?_
  refine z_istore (pc' := 2305) C _ dL_law_2303 rfl rfl rfl ?_
  refine z_aload_n (pc' := 2306) C 4 dL_law_2305 rfl rfl rfl ?_
  refine z_callV (pc' := 2309) (st := []) (h' := gW w h0 σ' ρ' (vp_updL u 0 (v.toInt64))) C (d_X9_thrown hN (v := md_thrown ρ') rfl) zy_X9_thrown zw_1236 zw_1237 zw_1238 (ci := 9) rfl (gW_c (k := 0) (by omega) rfl) rfl rfl rfl rfl (room_ok hk hn (by dsimp only [zrx, zr]; omega) (by dsimp only [zrx, zr]; omega)) dL_law_2306 rfl ?_
  refine z_iload (pc' := 2311) C 1 dL_law_2309 rfl rfl ?_
  refine z_icmp_eq (pc' := 2314) C 2316 (if_pos ht : (if _ = _ then some () else (none : Option Unit)) = some ()) dL_law_2311 rfl rfl (fun _ _ => ?_) (fun q _ => absurd ht q)
  refine z_iload (pc' := 2318) C 1 dL_law_2316 rfl rfl ?_
  refine z_if_ne (pc' := 2321) C 2333 (if_pos rfl : (if (0 : Int32) = 0 then some () else (none : Option Unit)) = some ()) dL_law_2318 rfl rfl (fun q _ => absurd rfl q) (fun _ _ => ?_)
  refine z_aload_n (pc' := 2322) C 3 dL_law_2321 rfl rfl rfl ?_
  refine z_iconst (pc' := 2323) C dL_law_2322 zk_iconst_0 rfl ?_
  refine z_lald (pc' := 2324) C (K := fun v => some v) rfl (gW_c (k := 6) (by omega) rfl) dL_law_2323 rfl (fun v0 hv0 => ?_)
  cases hv0
  refine z_iload (pc' := 2326) C 0 dL_law_2324 rfl rfl ?_
  refine z_i2l (pc' := 2327) C dL_law_2326 rfl ?_
  refine z_lcmp_eq (pc' := 2331) (pc1 := 2328) C 2333 (if_pos hv : (if _ = _ then some () else (none : Option Unit)) = some ()) dL_law_2327 rfl dL_law_2328 rfl rfl (fun _ _ => ?_) (fun q _ => absurd hv q)
  refine z_goto C 2707 dL_law_2333 rfl ?_
  refine z_pick (lv' := lw_lv w b i) [2, 3, 4, 5, 6] rfl ?_
  exact kk _ _ _ (by dsimp only [zrx, zr]; omega) (by dsimp only [zrx, zr]; omega)
theorem lc_nextStage_x1 (hN : 396 ≤ N) (hC : lw_C X w b L xs) (hs : lw_sc L xs i q) (hk : k + 12 ≤ 601024) (hn : n + 1000 ≤ 7293033) {b9 : Int32} (hf : f_X8_nextStage σ (q 1) = some (.inl ("java/lang/IndexOutOfBoundsException", σ'))) (hg : g_X9_nextStage ρ (q 1) = some (b9, ρ')) (ht : md_thrown ρ' = 1) (kk : lw_N X w Q b i N h0 k n σ' ρ') : zZ X w Q k n false N (gW w h0 σ ρ u) 2280 (lw_lv w b i) [] := by
  obtain ⟨C, hX, hb, hw⟩ := hC
  refine z_aload_n (pc' := 2281) C 3 dL_law_2280 rfl rfl rfl ?_
  refine z_aload_n (pc' := 2282) C 4 dL_law_2281 rfl rfl rfl ?_
  refine z_iload (pc' := 2284) C 0 dL_law_2282 rfl rfl ?_
  refine z_iconst (pc' := 2285) C dL_law_2284 zk_iconst_1 rfl ?_
  refine z_iadd (pc' := 2286) C dL_law_2285 rfl ?_
  refine z_sld (pc' := 2287) C hX hb hw (v := q 1) (hs 1 (by decide)) dL_law_2286 rfl ?_
  refine z_aload_n (pc' := 2288) C 1 dL_law_2287 rfl rfl rfl ?_
  refine z_callSW (pc' := 2291) (m := 3) (st := []) (h' := gW w h0 σ' ρ u) C (c_L_nextStage_1 (a := 0) (c0 := 395) (N := N) (by omega) (by omega) (zc_w (a := 389) (o := 6) (by omega) rfl) hf) zw_1108 zw_0 (by decide +kernel) zw_1106 zw_1107 rfl rfl rfl rfl (room_ok hk hn (by dsimp only [zrx, zr]; omega) (by dsimp only [zrx, zr]; omega)) dL_law_2288 rfl ?_
  refine z_istore (pc' := 2293) C _ dL_law_2291 rfl rfl rfl ?_
  refine z_aload_n (pc' := 2294) C 3 dL_law_2293 rfl rfl rfl ?_
  refine z_aload_n (pc' := 2295) C 5 dL_law_2294 rfl rfl rfl ?_
  refine z_iload (pc' := 2297) C 1 dL_law_2295 rfl rfl ?_
  refine z_iconst (pc' := 2298) C dL_law_2297 zk_iconst_1 rfl ?_
  refine z_iadd (pc' := 2299) C dL_law_2298 rfl ?_
  refine z_sld (pc' := 2300) C hX hb hw (v := q 1) (hs 1 (by decide)) dL_law_2299 rfl ?_
  refine z_callV (pc' := 2303) (st := []) (h' := gW w h0 σ' ρ' u) C (d_X9_nextStage hN  hg) zy_X9_nextStage zw_1666 zw_1667 zw_1668 (ci := 9) rfl (gW_c (k := 0) (by omega) rfl) rfl rfl rfl rfl (room_ok hk hn (by dsimp only [zrx, zr]; omega) (by dsimp only [zrx, zr]; omega)) dL_law_2300 rfl ?_
  refine z_istore (pc' := 2305) C _ dL_law_2303 rfl rfl rfl ?_
  refine z_aload_n (pc' := 2306) C 4 dL_law_2305 rfl rfl rfl ?_
  refine z_callV (pc' := 2309) (st := []) (h' := gW w h0 σ' ρ' u) C (d_X9_thrown hN (v := md_thrown ρ') rfl) zy_X9_thrown zw_1236 zw_1237 zw_1238 (ci := 9) rfl (gW_c (k := 0) (by omega) rfl) rfl rfl rfl rfl (room_ok hk hn (by dsimp only [zrx, zr]; omega) (by dsimp only [zrx, zr]; omega)) dL_law_2306 rfl ?_
  refine z_iload (pc' := 2311) C 1 dL_law_2309 rfl rfl ?_
  refine z_icmp_eq (pc' := 2314) C 2316 (if_pos ht : (if _ = _ then some () else (none : Option Unit)) = some ()) dL_law_2311 rfl rfl (fun _ _ => ?_) (fun q _ => absurd ht q)
  refine z_iload (pc' := 2318) C 1 dL_law_2316 rfl rfl ?_
  refine z_if_ne (pc' := 2321) C 2333 (if_neg (by decide) : (if (1 : Int32) = 0 then (none : Option Unit) else some ()) = some ()) dL_law_2318 rfl rfl (fun _ _ => ?_) (fun q _ => absurd q (by decide))
  refine z_goto C 2707 dL_law_2333 rfl ?_
  refine z_pick (lv' := lw_lv w b i) [2, 3, 4, 5, 6] rfl ?_
  exact kk _ _ _ (by dsimp only [zrx, zr]; omega) (by dsimp only [zrx, zr]; omega)
theorem lc_nextStage_x2 (hN : 396 ≤ N) (hC : lw_C X w b L xs) (hs : lw_sc L xs i q) (hk : k + 12 ≤ 601024) (hn : n + 1000 ≤ 7293033) {b9 : Int32} (hf : f_X8_nextStage σ (q 1) = some (.inl ("java/lang/IllegalStateException", σ'))) (hg : g_X9_nextStage ρ (q 1) = some (b9, ρ')) (ht : md_thrown ρ' = 2) (kk : lw_N X w Q b i N h0 k n σ' ρ') : zZ X w Q k n false N (gW w h0 σ ρ u) 2280 (lw_lv w b i) [] := by
  obtain ⟨C, hX, hb, hw⟩ := hC
  refine z_aload_n (pc' := 2281) C 3 dL_law_2280 rfl rfl rfl ?_
  refine z_aload_n (pc' := 2282) C 4 dL_law_2281 rfl rfl rfl ?_
  refine z_iload (pc' := 2284) C 0 dL_law_2282 rfl rfl ?_
  refine z_iconst (pc' := 2285) C dL_law_2284 zk_iconst_1 rfl ?_
  refine z_iadd (pc' := 2286) C dL_law_2285 rfl ?_
  refine z_sld (pc' := 2287) C hX hb hw (v := q 1) (hs 1 (by decide)) dL_law_2286 rfl ?_
  refine z_aload_n (pc' := 2288) C 1 dL_law_2287 rfl rfl rfl ?_
  refine z_callSW (pc' := 2291) (m := 3) (st := []) (h' := gW w h0 σ' ρ u) C (c_L_nextStage_2 (a := 0) (c0 := 395) (N := N) (by omega) (by omega) (zc_w (a := 389) (o := 6) (by omega) rfl) hf) zw_1108 zw_0 (by decide +kernel) zw_1106 zw_1107 rfl rfl rfl rfl (room_ok hk hn (by dsimp only [zrx, zr]; omega) (by dsimp only [zrx, zr]; omega)) dL_law_2288 rfl ?_
  refine z_istore (pc' := 2293) C _ dL_law_2291 rfl rfl rfl ?_
  refine z_aload_n (pc' := 2294) C 3 dL_law_2293 rfl rfl rfl ?_
  refine z_aload_n (pc' := 2295) C 5 dL_law_2294 rfl rfl rfl ?_
  refine z_iload (pc' := 2297) C 1 dL_law_2295 rfl rfl ?_
  refine z_iconst (pc' := 2298) C dL_law_2297 zk_iconst_1 rfl ?_
  refine z_iadd (pc' := 2299) C dL_law_2298 rfl ?_
  refine z_sld (pc' := 2300) C hX hb hw (v := q 1) (hs 1 (by decide)) dL_law_2299 rfl ?_
  refine z_callV (pc' := 2303) (st := []) (h' := gW w h0 σ' ρ' u) C (d_X9_nextStage hN  hg) zy_X9_nextStage zw_1666 zw_1667 zw_1668 (ci := 9) rfl (gW_c (k := 0) (by omega) rfl) rfl rfl rfl rfl (room_ok hk hn (by dsimp only [zrx, zr]; omega) (by dsimp only [zrx, zr]; omega)) dL_law_2300 rfl ?_
  refine z_istore (pc' := 2305) C _ dL_law_2303 rfl rfl rfl ?_
  refine z_aload_n (pc' := 2306) C 4 dL_law_2305 rfl rfl rfl ?_
  refine z_callV (pc' := 2309) (st := []) (h' := gW w h0 σ' ρ' u) C (d_X9_thrown hN (v := md_thrown ρ') rfl) zy_X9_thrown zw_1236 zw_1237 zw_1238 (ci := 9) rfl (gW_c (k := 0) (by omega) rfl) rfl rfl rfl rfl (room_ok hk hn (by dsimp only [zrx, zr]; omega) (by dsimp only [zrx, zr]; omega)) dL_law_2306 rfl ?_
  refine z_iload (pc' := 2311) C 1 dL_law_2309 rfl rfl ?_
  refine z_icmp_eq (pc' := 2314) C 2316 (if_pos ht : (if _ = _ then some () else (none : Option Unit)) = some ()) dL_law_2311 rfl rfl (fun _ _ => ?_) (fun q _ => absurd ht q)
  refine z_iload (pc' := 2318) C 1 dL_law_2316 rfl rfl ?_
  refine z_if_ne (pc' := 2321) C 2333 (if_neg (by decide) : (if (2 : Int32) = 0 then (none : Option Unit) else some ()) = some ()) dL_law_2318 rfl rfl (fun _ _ => ?_) (fun q _ => absurd q (by decide))
  refine z_goto C 2707 dL_law_2333 rfl ?_
  refine z_pick (lv' := lw_lv w b i) [2, 3, 4, 5, 6] rfl ?_
  exact kk _ _ _ (by dsimp only [zrx, zr]; omega) (by dsimp only [zrx, zr]; omega)
theorem lc_pay (hN : 396 ≤ N) (hC : lw_C X w b L xs) (hs : lw_sc L xs i q) (hk : k + 12 ≤ 601024) (hn : n + 1000 ≤ 7293033) {v : Int64} {b9 : Int64} (hf : f_X8_pay σ (q 1) (q 2) = some (.inr (v, σ'))) (hg : g_X9_pay ρ (q 1) (q 2) = some (b9, ρ')) (ht : md_thrown ρ' = 0) (hv : v = b9) (kk : lw_N X w Q b i N h0 k n σ' ρ') : zZ X w Q k n false N (gW w h0 σ ρ u) 2336 (lw_lv w b i) [] := by
  obtain ⟨C, hX, hb, hw⟩ := hC
  refine z_aload_n (pc' := 2337) C 3 dL_law_2336 rfl rfl rfl ?_
  refine z_aload_n (pc' := 2338) C 4 dL_law_2337 rfl rfl rfl ?_
  refine z_iload (pc' := 2340) C 0 dL_law_2338 rfl rfl ?_
  refine z_iconst (pc' := 2341) C dL_law_2340 zk_iconst_1 rfl ?_
  refine z_iadd (pc' := 2342) C dL_law_2341 rfl ?_
  refine z_sld (pc' := 2343) C hX hb hw (v := q 1) (hs 1 (by decide)) dL_law_2342 rfl ?_
  refine z_aload_n (pc' := 2344) C 4 dL_law_2343 rfl rfl rfl ?_
  refine z_iload (pc' := 2346) C 0 dL_law_2344 rfl rfl ?_
  refine z_iconst (pc' := 2347) C dL_law_2346 zk_iconst_2 rfl ?_
  refine z_iadd (pc' := 2348) C dL_law_2347 rfl ?_
  refine z_sld (pc' := 2349) C hX hb hw (v := q 2) (hs 2 (by decide)) dL_law_2348 rfl ?_
  refine z_aload_n (pc' := 2350) C 1 dL_law_2349 rfl rfl rfl ?_
  refine z_callSW (pc' := 2353) (m := 4) (st := []) (h' := gW w h0 σ' ρ (vp_updL u 0 (v))) C (zMw_eq gW_o (c_L_pay (a := 0) (c0 := 395) (N := N) (by omega) (by omega) (zc_w (a := 389) (o := 6) (by omega) rfl) hf)) zw_1119 zw_0 (by decide +kernel) zw_1117 zw_1118 rfl rfl rfl rfl (room_ok hk hn (by dsimp only [zrx, zr]; omega) (by dsimp only [zrx, zr]; omega)) dL_law_2350 rfl ?_
  refine z_istore (pc' := 2355) C _ dL_law_2353 rfl rfl rfl ?_
  refine z_aload_n (pc' := 2356) C 3 dL_law_2355 rfl rfl rfl ?_
  refine z_aload_n (pc' := 2357) C 5 dL_law_2356 rfl rfl rfl ?_
  refine z_iload (pc' := 2359) C 1 dL_law_2357 rfl rfl ?_
  refine z_iconst (pc' := 2360) C dL_law_2359 zk_iconst_1 rfl ?_
  refine z_iadd (pc' := 2361) C dL_law_2360 rfl ?_
  refine z_sld (pc' := 2362) C hX hb hw (v := q 1) (hs 1 (by decide)) dL_law_2361 rfl ?_
  refine z_aload_n (pc' := 2363) C 5 dL_law_2362 rfl rfl rfl ?_
  refine z_iload (pc' := 2365) C 1 dL_law_2363 rfl rfl ?_
  refine z_iconst (pc' := 2366) C dL_law_2365 zk_iconst_2 rfl ?_
  refine z_iadd (pc' := 2367) C dL_law_2366 rfl ?_
  refine z_sld (pc' := 2368) C hX hb hw (v := q 2) (hs 2 (by decide)) dL_law_2367 rfl ?_
  refine z_callV (pc' := 2371) (st := []) (h' := gW w h0 σ' ρ' (vp_updL u 0 (v))) C (d_X9_pay hN  hg) zy_X9_pay zw_1674 zw_1675 zw_1676 (ci := 9) rfl (gW_c (k := 0) (by omega) rfl) rfl rfl rfl rfl (room_ok hk hn (by dsimp only [zrx, zr]; omega) (by dsimp only [zrx, zr]; omega)) dL_law_2368 rfl ?_
  refine z_lstore (pc' := 2373) C _ dL_law_2371 rfl rfl rfl ?_
  refine z_aload_n (pc' := 2374) C 4 dL_law_2373 rfl rfl rfl ?_
  refine z_callV (pc' := 2377) (st := []) (h' := gW w h0 σ' ρ' (vp_updL u 0 (v))) C (d_X9_thrown hN (v := md_thrown ρ') rfl) zy_X9_thrown zw_1236 zw_1237 zw_1238 (ci := 9) rfl (gW_c (k := 0) (by omega) rfl) rfl rfl rfl rfl (room_ok hk hn (by dsimp only [zrx, zr]; omega) (by dsimp only [zrx, zr]; omega)) dL_law_2374 rfl ?_
  refine z_iload (pc' := 2379) C 1 dL_law_2377 rfl rfl ?_
  refine z_icmp_eq (pc' := 2382) C 2384 (if_pos ht : (if _ = _ then some () else (none : Option Unit)) = some ()) dL_law_2379 rfl rfl (fun _ _ => ?_) (fun q _ => absurd ht q)
  refine z_iload (pc' := 2386) C 1 dL_law_2384 rfl rfl ?_
  refine z_if_ne (pc' := 2389) C 2400 (if_pos rfl : (if (0 : Int32) = 0 then some () else (none : Option Unit)) = some ()) dL_law_2386 rfl rfl (fun q _ => absurd rfl q) (fun _ _ => ?_)
  refine z_aload_n (pc' := 2390) C 3 dL_law_2389 rfl rfl rfl ?_
  refine z_iconst (pc' := 2391) C dL_law_2390 zk_iconst_0 rfl ?_
  refine z_lald (pc' := 2392) C (K := fun v => some v) rfl (gW_c (k := 6) (by omega) rfl) dL_law_2391 rfl (fun v0 hv0 => ?_)
  cases hv0
  refine z_lload (pc' := 2394) C 0 dL_law_2392 rfl rfl ?_
  refine z_lcmp_eq (pc' := 2398) (pc1 := 2395) C 2400 (if_pos hv : (if _ = _ then some () else (none : Option Unit)) = some ()) dL_law_2394 rfl dL_law_2395 rfl rfl (fun _ _ => ?_) (fun q _ => absurd hv q)
  refine z_goto C 2707 dL_law_2400 rfl ?_
  refine z_pick (lv' := lw_lv w b i) [2, 3, 4, 5, 6] rfl ?_
  exact kk _ _ _ (by dsimp only [zrx, zr]; omega) (by dsimp only [zrx, zr]; omega)
theorem lc_pay_x1 (hN : 396 ≤ N) (hC : lw_C X w b L xs) (hs : lw_sc L xs i q) (hk : k + 12 ≤ 601024) (hn : n + 1000 ≤ 7293033) {b9 : Int64} (hf : f_X8_pay σ (q 1) (q 2) = some (.inl ("java/lang/IndexOutOfBoundsException", σ'))) (hg : g_X9_pay ρ (q 1) (q 2) = some (b9, ρ')) (ht : md_thrown ρ' = 1) (kk : lw_N X w Q b i N h0 k n σ' ρ') : zZ X w Q k n false N (gW w h0 σ ρ u) 2336 (lw_lv w b i) [] := by
  obtain ⟨C, hX, hb, hw⟩ := hC
  refine z_aload_n (pc' := 2337) C 3 dL_law_2336 rfl rfl rfl ?_
  refine z_aload_n (pc' := 2338) C 4 dL_law_2337 rfl rfl rfl ?_
  refine z_iload (pc' := 2340) C 0 dL_law_2338 rfl rfl ?_
  refine z_iconst (pc' := 2341) C dL_law_2340 zk_iconst_1 rfl ?_
  refine z_iadd (pc' := 2342) C dL_law_2341 rfl ?_
  refine z_sld (pc' := 2343) C hX hb hw (v := q 1) (hs 1 (by decide)) dL_law_2342 rfl ?_
  refine z_aload_n (pc' := 2344) C 4 dL_law_2343 rfl rfl rfl ?_
  refine z_iload (pc' := 2346) C 0 dL_law_2344 rfl rfl ?_
  refine z_iconst (pc' := 2347) C dL_law_2346 zk_iconst_2 rfl ?_
  refine z_iadd (pc' := 2348) C dL_law_2347 rfl ?_
  refine z_sld (pc' := 2349) C hX hb hw (v := q 2) (hs 2 (by decide)) dL_law_2348 rfl ?_
  refine z_aload_n (pc' := 2350) C 1 dL_law_2349 rfl rfl rfl ?_
  refine z_callSW (pc' := 2353) (m := 4) (st := []) (h' := gW w h0 σ' ρ u) C (c_L_pay_1 (a := 0) (c0 := 395) (N := N) (by omega) (by omega) (zc_w (a := 389) (o := 6) (by omega) rfl) hf) zw_1119 zw_0 (by decide +kernel) zw_1117 zw_1118 rfl rfl rfl rfl (room_ok hk hn (by dsimp only [zrx, zr]; omega) (by dsimp only [zrx, zr]; omega)) dL_law_2350 rfl ?_
  refine z_istore (pc' := 2355) C _ dL_law_2353 rfl rfl rfl ?_
  refine z_aload_n (pc' := 2356) C 3 dL_law_2355 rfl rfl rfl ?_
  refine z_aload_n (pc' := 2357) C 5 dL_law_2356 rfl rfl rfl ?_
  refine z_iload (pc' := 2359) C 1 dL_law_2357 rfl rfl ?_
  refine z_iconst (pc' := 2360) C dL_law_2359 zk_iconst_1 rfl ?_
  refine z_iadd (pc' := 2361) C dL_law_2360 rfl ?_
  refine z_sld (pc' := 2362) C hX hb hw (v := q 1) (hs 1 (by decide)) dL_law_2361 rfl ?_
  refine z_aload_n (pc' := 2363) C 5 dL_law_2362 rfl rfl rfl ?_
  refine z_iload (pc' := 2365) C 1 dL_law_2363 rfl rfl ?_
  refine z_iconst (pc' := 2366) C dL_law_2365 zk_iconst_2 rfl ?_
  refine z_iadd (pc' := 2367) C dL_law_2366 rfl ?_
  refine z_sld (pc' := 2368) C hX hb hw (v := q 2) (hs 2 (by decide)) dL_law_2367 rfl ?_
  refine z_callV (pc' := 2371) (st := []) (h' := gW w h0 σ' ρ' u) C (d_X9_pay hN  hg) zy_X9_pay zw_1674 zw_1675 zw_1676 (ci := 9) rfl (gW_c (k := 0) (by omega) rfl) rfl rfl rfl rfl (room_ok hk hn (by dsimp only [zrx, zr]; omega) (by dsimp only [zrx, zr]; omega)) dL_law_2368 rfl ?_
  refine z_lstore (pc' := 2373) C _ dL_law_2371 rfl rfl rfl ?_
  refine z_aload_n (pc' := 2374) C 4 dL_law_2373 rfl rfl rfl ?_
  refine z_callV (pc' := 2377) (st := []) (h' := gW w h0 σ' ρ' u) C (d_X9_thrown hN (v := md_thrown ρ') rfl) zy_X9_thrown zw_1236 zw_1237 zw_1238 (ci := 9) rfl (gW_c (k := 0) (by omega) rfl) rfl rfl rfl rfl (room_ok hk hn (by dsimp only [zrx, zr]; omega) (by dsimp only [zrx, zr]; omega)) dL_law_2374 rfl ?_
  refine z_iload (pc' := 2379) C 1 dL_law_2377 rfl rfl ?_
  refine z_icmp_eq (pc' := 2382) C 2384 (if_pos ht : (if _ = _ then some () else (none : Option Unit)) = some ()) dL_law_2379 rfl rfl (fun _ _ => ?_) (fun q _ => absurd ht q)
  refine z_iload (pc' := 2386) C 1 dL_law_2384 rfl rfl ?_
  refine z_if_ne (pc' := 2389) C 2400 (if_neg (by decide) : (if (1 : Int32) = 0 then (none : Option Unit) else some ()) = some ()) dL_law_2386 rfl rfl (fun _ _ => ?_) (fun q _ => absurd q (by decide))
  refine z_goto C 2707 dL_law_2400 rfl ?_
  refine z_pick (lv' := lw_lv w b i) [2, 3, 4, 5, 6] rfl ?_
  exact kk _ _ _ (by dsimp only [zrx, zr]; omega) (by dsimp only [zrx, zr]; omega)
theorem lc_pay_x2 (hN : 396 ≤ N) (hC : lw_C X w b L xs) (hs : lw_sc L xs i q) (hk : k + 12 ≤ 601024) (hn : n + 1000 ≤ 7293033) {b9 : Int64} (hf : f_X8_pay σ (q 1) (q 2) = some (.inl ("java/lang/IllegalArgumentException", σ'))) (hg : g_X9_pay ρ (q 1) (q 2) = some (b9, ρ')) (ht : md_thrown ρ' = 2) (kk : lw_N X w Q b i N h0 k n σ' ρ') : zZ X w Q k n false N (gW w h0 σ ρ u) 2336 (lw_lv w b i) [] := by
  obtain ⟨C, hX, hb, hw⟩ := hC
  refine z_aload_n (pc' := 2337) C 3 dL_law_2336 rfl rfl rfl ?_
  refine z_aload_n (pc' := 2338) C 4 dL_law_2337 rfl rfl rfl ?_
  refine z_iload (pc' := 2340) C 0 dL_law_2338 rfl rfl ?_
  refine z_iconst (pc' := 2341) C dL_law_2340 zk_iconst_1 rfl ?_
  refine z_iadd (pc' := 2342) C dL_law_2341 rfl ?_
  refine z_sld (pc' := 2343) C hX hb hw (v := q 1) (hs 1 (by decide)) dL_law_2342 rfl ?_
  refine z_aload_n (pc' := 2344) C 4 dL_law_2343 rfl rfl rfl ?_
  refine z_iload (pc' := 2346) C 0 dL_law_2344 rfl rfl ?_
  refine z_iconst (pc' := 2347) C dL_law_2346 zk_iconst_2 rfl ?_
  refine z_iadd (pc' := 2348) C dL_law_2347 rfl ?_
  refine z_sld (pc' := 2349) C hX hb hw (v := q 2) (hs 2 (by decide)) dL_law_2348 rfl ?_
  refine z_aload_n (pc' := 2350) C 1 dL_law_2349 rfl rfl rfl ?_
  refine z_callSW (pc' := 2353) (m := 4) (st := []) (h' := gW w h0 σ' ρ u) C (c_L_pay_2 (a := 0) (c0 := 395) (N := N) (by omega) (by omega) (zc_w (a := 389) (o := 6) (by omega) rfl) hf) zw_1119 zw_0 (by decide +kernel) zw_1117 zw_1118 rfl rfl rfl rfl (room_ok hk hn (by dsimp only [zrx, zr]; omega) (by dsimp only [zrx, zr]; omega)) dL_law_2350 rfl ?_
  refine z_istore (pc' := 2355) C _ dL_law_2353 rfl rfl rfl ?_
  refine z_aload_n (pc' := 2356) C 3 dL_law_2355 rfl rfl rfl ?_
  refine z_aload_n (pc' := 2357) C 5 dL_law_2356 rfl rfl rfl ?_
  refine z_iload (pc' := 2359) C 1 dL_law_2357 rfl rfl ?_
  refine z_iconst (pc' := 2360) C dL_law_2359 zk_iconst_1 rfl ?_
  refine z_iadd (pc' := 2361) C dL_law_2360 rfl ?_
  refine z_sld (pc' := 2362) C hX hb hw (v := q 1) (hs 1 (by decide)) dL_law_2361 rfl ?_
  refine z_aload_n (pc' := 2363) C 5 dL_law_2362 rfl rfl rfl ?_
  refine z_iload (pc' := 2365) C 1 dL_law_2363 rfl rfl ?_
  refine z_iconst (pc' := 2366) C dL_law_2365 zk_iconst_2 rfl ?_
  refine z_iadd (pc' := 2367) C dL_law_2366 rfl ?_
  refine z_sld (pc' := 2368) C hX hb hw (v := q 2) (hs 2 (by decide)) dL_law_2367 rfl ?_
  refine z_callV (pc' := 2371) (st := []) (h' := gW w h0 σ' ρ' u) C (d_X9_pay hN  hg) zy_X9_pay zw_1674 zw_1675 zw_1676 (ci := 9) rfl (gW_c (k := 0) (by omega) rfl) rfl rfl rfl rfl (room_ok hk hn (by dsimp only [zrx, zr]; omega) (by dsimp only [zrx, zr]; omega)) dL_law_2368 rfl ?_
  refine z_lstore (pc' := 2373) C _ dL_law_2371 rfl rfl rfl ?_
  refine z_aload_n (pc' := 2374) C 4 dL_law_2373 rfl rfl rfl ?_
  refine z_callV (pc' := 2377) (st := []) (h' := gW w h0 σ' ρ' u) C (d_X9_thrown hN (v := md_thrown ρ') rfl) zy_X9_thrown zw_1236 zw_1237 zw_1238 (ci := 9) rfl (gW_c (k := 0) (by omega) rfl) rfl rfl rfl rfl (room_ok hk hn (by dsimp only [zrx, zr]; omega) (by dsimp only [zrx, zr]; omega)) dL_law_2374 rfl ?_
  refine z_iload (pc' := 2379) C 1 dL_law_2377 rfl rfl ?_
  refine z_icmp_eq (pc' := 2382) C 2384 (if_pos ht : (if _ = _ then some () else (none : Option Unit)) = some ()) dL_law_2379 rfl rfl (fun _ _ => ?_) (fun q _ => absurd ht q)
  refine z_iload (pc' := 2386) C 1 dL_law_2384 rfl rfl ?_
  refine z_if_ne (pc' := 2389) C 2400 (if_neg (by decide) : (if (2 : Int32) = 0 then (none : Option Unit) else some ()) = some ()) dL_law_2386 rfl rfl (fun _ _ => ?_) (fun q _ => absurd q (by decide))
  refine z_goto C 2707 dL_law_2400 rfl ?_
  refine z_pick (lv' := lw_lv w b i) [2, 3, 4, 5, 6] rfl ?_
  exact kk _ _ _ (by dsimp only [zrx, zr]; omega) (by dsimp only [zrx, zr]; omega)
theorem lc_pay_x3 (hN : 396 ≤ N) (hC : lw_C X w b L xs) (hs : lw_sc L xs i q) (hk : k + 12 ≤ 601024) (hn : n + 1000 ≤ 7293033) {b9 : Int64} (hf : f_X8_pay σ (q 1) (q 2) = some (.inl ("java/lang/IllegalStateException", σ'))) (hg : g_X9_pay ρ (q 1) (q 2) = some (b9, ρ')) (ht : md_thrown ρ' = 3) (kk : lw_N X w Q b i N h0 k n σ' ρ') : zZ X w Q k n false N (gW w h0 σ ρ u) 2336 (lw_lv w b i) [] := by
  obtain ⟨C, hX, hb, hw⟩ := hC
  refine z_aload_n (pc' := 2337) C 3 dL_law_2336 rfl rfl rfl ?_
  refine z_aload_n (pc' := 2338) C 4 dL_law_2337 rfl rfl rfl ?_
  refine z_iload (pc' := 2340) C 0 dL_law_2338 rfl rfl ?_
  refine z_iconst (pc' := 2341) C dL_law_2340 zk_iconst_1 rfl ?_
  refine z_iadd (pc' := 2342) C dL_law_2341 rfl ?_
  refine z_sld (pc' := 2343) C hX hb hw (v := q 1) (hs 1 (by decide)) dL_law_2342 rfl ?_
  refine z_aload_n (pc' := 2344) C 4 dL_law_2343 rfl rfl rfl ?_
  refine z_iload (pc' := 2346) C 0 dL_law_2344 rfl rfl ?_
  refine z_iconst (pc' := 2347) C dL_law_2346 zk_iconst_2 rfl ?_
  refine z_iadd (pc' := 2348) C dL_law_2347 rfl ?_
  refine z_sld (pc' := 2349) C hX hb hw (v := q 2) (hs 2 (by decide)) dL_law_2348 rfl ?_
  refine z_aload_n (pc' := 2350) C 1 dL_law_2349 rfl rfl rfl ?_
  refine z_callSW (pc' := 2353) (m := 4) (st := []) (h' := gW w h0 σ' ρ u) C (c_L_pay_3 (a := 0) (c0 := 395) (N := N) (by omega) (by omega) (zc_w (a := 389) (o := 6) (by omega) rfl) hf) zw_1119 zw_0 (by decide +kernel) zw_1117 zw_1118 rfl rfl rfl rfl (room_ok hk hn (by dsimp only [zrx, zr]; omega) (by dsimp only [zrx, zr]; omega)) dL_law_2350 rfl ?_
  refine z_istore (pc' := 2355) C _ dL_law_2353 rfl rfl rfl ?_
  refine z_aload_n (pc' := 2356) C 3 dL_law_2355 rfl rfl rfl ?_
  refine z_aload_n (pc' := 2357) C 5 dL_law_2356 rfl rfl rfl ?_
  refine z_iload (pc' := 2359) C 1 dL_law_2357 rfl rfl ?_
  refine z_iconst (pc' := 2360) C dL_law_2359 zk_iconst_1 rfl ?_
  refine z_iadd (pc' := 2361) C dL_law_2360 rfl ?_
  refine z_sld (pc' := 2362) C hX hb hw (v := q 1) (hs 1 (by decide)) dL_law_2361 rfl ?_
  refine z_aload_n (pc' := 2363) C 5 dL_law_2362 rfl rfl rfl ?_
  refine z_iload (pc' := 2365) C 1 dL_law_2363 rfl rfl ?_
  refine z_iconst (pc' := 2366) C dL_law_2365 zk_iconst_2 rfl ?_
  refine z_iadd (pc' := 2367) C dL_law_2366 rfl ?_
  refine z_sld (pc' := 2368) C hX hb hw (v := q 2) (hs 2 (by decide)) dL_law_2367 rfl ?_
  refine z_callV (pc' := 2371) (st := []) (h' := gW w h0 σ' ρ' u) C (d_X9_pay hN  hg) zy_X9_pay zw_1674 zw_1675 zw_1676 (ci := 9) rfl (gW_c (k := 0) (by omega) rfl) rfl rfl rfl rfl (room_ok hk hn (by dsimp only [zrx, zr]; omega) (by dsimp only [zrx, zr]; omega)) dL_law_2368 rfl ?_
  refine z_lstore (pc' := 2373) C _ dL_law_2371 rfl rfl rfl ?_
  refine z_aload_n (pc' := 2374) C 4 dL_law_2373 rfl rfl rfl ?_
  refine z_callV (pc' := 2377) (st := []) (h' := gW w h0 σ' ρ' u) C (d_X9_thrown hN (v := md_thrown ρ') rfl) zy_X9_thrown zw_1236 zw_1237 zw_1238 (ci := 9) rfl (gW_c (k := 0) (by omega) rfl) rfl rfl rfl rfl (room_ok hk hn (by dsimp only [zrx, zr]; omega) (by dsimp only [zrx, zr]; omega)) dL_law_2374 rfl ?_
  refine z_iload (pc' := 2379) C 1 dL_law_2377 rfl rfl ?_
  refine z_icmp_eq (pc' := 2382) C 2384 (if_pos ht : (if _ = _ then some () else (none : Option Unit)) = some ()) dL_law_2379 rfl rfl (fun _ _ => ?_) (fun q _ => absurd ht q)
  refine z_iload (pc' := 2386) C 1 dL_law_2384 rfl rfl ?_
  refine z_if_ne (pc' := 2389) C 2400 (if_neg (by decide) : (if (3 : Int32) = 0 then (none : Option Unit) else some ()) = some ()) dL_law_2386 rfl rfl (fun _ _ => ?_) (fun q _ => absurd q (by decide))
  refine z_goto C 2707 dL_law_2400 rfl ?_
  refine z_pick (lv' := lw_lv w b i) [2, 3, 4, 5, 6] rfl ?_
  exact kk _ _ _ (by dsimp only [zrx, zr]; omega) (by dsimp only [zrx, zr]; omega)
theorem lc_deposit (hN : 396 ≤ N) (hC : lw_C X w b L xs) (hs : lw_sc L xs i q) (hk : k + 12 ≤ 601024) (hn : n + 1000 ≤ 7293033) {v : Int64} {b9 : Int64} (hf : f_X8_deposit σ (q 1) = some (.inr (v, σ'))) (hg : g_X9_deposit ρ (q 1) = some (b9, ρ')) (ht : md_thrown ρ' = 0) (hv : v = b9) (kk : lw_N X w Q b i N h0 k n σ' ρ') : zZ X w Q k n false N (gW w h0 σ ρ u) 2403 (lw_lv w b i) [] := by
  obtain ⟨C, hX, hb, hw⟩ := hC
  refine z_aload_n (pc' := 2404) C 3 dL_law_2403 rfl rfl rfl ?_
  refine z_aload_n (pc' := 2405) C 4 dL_law_2404 rfl rfl rfl ?_
  refine z_iload (pc' := 2407) C 0 dL_law_2405 rfl rfl ?_
  refine z_iconst (pc' := 2408) C dL_law_2407 zk_iconst_1 rfl ?_
  refine z_iadd (pc' := 2409) C dL_law_2408 rfl ?_
  refine z_sld (pc' := 2410) C hX hb hw (v := q 1) (hs 1 (by decide)) dL_law_2409 rfl ?_
  refine z_aload_n (pc' := 2411) C 1 dL_law_2410 rfl rfl rfl ?_
  refine z_callSW (pc' := 2414) (m := 3) (st := []) (h' := gW w h0 σ' ρ (vp_updL u 0 (v))) C (zMw_eq gW_o (c_L_deposit (a := 0) (c0 := 395) (N := N) (by omega) (by omega) (zc_w (a := 389) (o := 6) (by omega) rfl) hf)) zw_1129 zw_0 (by decide +kernel) zw_1127 zw_1128 rfl rfl rfl rfl (room_ok hk hn (by dsimp only [zrx, zr]; omega) (by dsimp only [zrx, zr]; omega)) dL_law_2411 rfl ?_
  refine z_istore (pc' := 2416) C _ dL_law_2414 rfl rfl rfl ?_
  refine z_aload_n (pc' := 2417) C 3 dL_law_2416 rfl rfl rfl ?_
  refine z_aload_n (pc' := 2418) C 5 dL_law_2417 rfl rfl rfl ?_
  refine z_iload (pc' := 2420) C 1 dL_law_2418 rfl rfl ?_
  refine z_iconst (pc' := 2421) C dL_law_2420 zk_iconst_1 rfl ?_
  refine z_iadd (pc' := 2422) C dL_law_2421 rfl ?_
  refine z_sld (pc' := 2423) C hX hb hw (v := q 1) (hs 1 (by decide)) dL_law_2422 rfl ?_
  refine z_callV (pc' := 2426) (st := []) (h' := gW w h0 σ' ρ' (vp_updL u 0 (v))) C (d_X9_deposit hN  hg) zy_X9_deposit zw_1678 zw_1679 zw_1680 (ci := 9) rfl (gW_c (k := 0) (by omega) rfl) rfl rfl rfl rfl (room_ok hk hn (by dsimp only [zrx, zr]; omega) (by dsimp only [zrx, zr]; omega)) dL_law_2423 rfl ?_
  refine z_lstore (pc' := 2428) C _ dL_law_2426 rfl rfl rfl ?_
  refine z_aload_n (pc' := 2429) C 4 dL_law_2428 rfl rfl rfl ?_
  refine z_callV (pc' := 2432) (st := []) (h' := gW w h0 σ' ρ' (vp_updL u 0 (v))) C (d_X9_thrown hN (v := md_thrown ρ') rfl) zy_X9_thrown zw_1236 zw_1237 zw_1238 (ci := 9) rfl (gW_c (k := 0) (by omega) rfl) rfl rfl rfl rfl (room_ok hk hn (by dsimp only [zrx, zr]; omega) (by dsimp only [zrx, zr]; omega)) dL_law_2429 rfl ?_
  refine z_iload (pc' := 2434) C 1 dL_law_2432 rfl rfl ?_
  refine z_icmp_eq (pc' := 2437) C 2439 (if_pos ht : (if _ = _ then some () else (none : Option Unit)) = some ()) dL_law_2434 rfl rfl (fun _ _ => ?_) (fun q _ => absurd ht q)
  refine z_iload (pc' := 2441) C 1 dL_law_2439 rfl rfl ?_
  refine z_if_ne (pc' := 2444) C 2455 (if_pos rfl : (if (0 : Int32) = 0 then some () else (none : Option Unit)) = some ()) dL_law_2441 rfl rfl (fun q _ => absurd rfl q) (fun _ _ => ?_)
  refine z_aload_n (pc' := 2445) C 3 dL_law_2444 rfl rfl rfl ?_
  refine z_iconst (pc' := 2446) C dL_law_2445 zk_iconst_0 rfl ?_
  refine z_lald (pc' := 2447) C (K := fun v => some v) rfl (gW_c (k := 6) (by omega) rfl) dL_law_2446 rfl (fun v0 hv0 => ?_)
  cases hv0
  refine z_lload (pc' := 2449) C 0 dL_law_2447 rfl rfl ?_
  refine z_lcmp_eq (pc' := 2453) (pc1 := 2450) C 2455 (if_pos hv : (if _ = _ then some () else (none : Option Unit)) = some ()) dL_law_2449 rfl dL_law_2450 rfl rfl (fun _ _ => ?_) (fun q _ => absurd hv q)
  refine z_goto C 2707 dL_law_2455 rfl ?_
  refine z_pick (lv' := lw_lv w b i) [2, 3, 4, 5, 6] rfl ?_
  exact kk _ _ _ (by dsimp only [zrx, zr]; omega) (by dsimp only [zrx, zr]; omega)
theorem lc_deposit_x1 (hN : 396 ≤ N) (hC : lw_C X w b L xs) (hs : lw_sc L xs i q) (hk : k + 12 ≤ 601024) (hn : n + 1000 ≤ 7293033) {b9 : Int64} (hf : f_X8_deposit σ (q 1) = some (.inl ("java/lang/IllegalArgumentException", σ'))) (hg : g_X9_deposit ρ (q 1) = some (b9, ρ')) (ht : md_thrown ρ' = 1) (kk : lw_N X w Q b i N h0 k n σ' ρ') : zZ X w Q k n false N (gW w h0 σ ρ u) 2403 (lw_lv w b i) [] := by
  obtain ⟨C, hX, hb, hw⟩ := hC
  refine z_aload_n (pc' := 2404) C 3 dL_law_2403 rfl rfl rfl ?_
  refine z_aload_n (pc' := 2405) C 4 dL_law_2404 rfl rfl rfl ?_
  refine z_iload (pc' := 2407) C 0 dL_law_2405 rfl rfl ?_
  refine z_iconst (pc' := 2408) C dL_law_2407 zk_iconst_1 rfl ?_
  refine z_iadd (pc' := 2409) C dL_law_2408 rfl ?_
  refine z_sld (pc' := 2410) C hX hb hw (v := q 1) (hs 1 (by decide)) dL_law_2409 rfl ?_
  refine z_aload_n (pc' := 2411) C 1 dL_law_2410 rfl rfl rfl ?_
  refine z_callSW (pc' := 2414) (m := 3) (st := []) (h' := gW w h0 σ' ρ u) C (c_L_deposit_1 (a := 0) (c0 := 395) (N := N) (by omega) (by omega) (zc_w (a := 389) (o := 6) (by omega) rfl) hf) zw_1129 zw_0 (by decide +kernel) zw_1127 zw_1128 rfl rfl rfl rfl (room_ok hk hn (by dsimp only [zrx, zr]; omega) (by dsimp only [zrx, zr]; omega)) dL_law_2411 rfl ?_
  refine z_istore (pc' := 2416) C _ dL_law_2414 rfl rfl rfl ?_
  refine z_aload_n (pc' := 2417) C 3 dL_law_2416 rfl rfl rfl ?_
  refine z_aload_n (pc' := 2418) C 5 dL_law_2417 rfl rfl rfl ?_
  refine z_iload (pc' := 2420) C 1 dL_law_2418 rfl rfl ?_
  refine z_iconst (pc' := 2421) C dL_law_2420 zk_iconst_1 rfl ?_
  refine z_iadd (pc' := 2422) C dL_law_2421 rfl ?_
  refine z_sld (pc' := 2423) C hX hb hw (v := q 1) (hs 1 (by decide)) dL_law_2422 rfl ?_
  refine z_callV (pc' := 2426) (st := []) (h' := gW w h0 σ' ρ' u) C (d_X9_deposit hN  hg) zy_X9_deposit zw_1678 zw_1679 zw_1680 (ci := 9) rfl (gW_c (k := 0) (by omega) rfl) rfl rfl rfl rfl (room_ok hk hn (by dsimp only [zrx, zr]; omega) (by dsimp only [zrx, zr]; omega)) dL_law_2423 rfl ?_
  refine z_lstore (pc' := 2428) C _ dL_law_2426 rfl rfl rfl ?_
  refine z_aload_n (pc' := 2429) C 4 dL_law_2428 rfl rfl rfl ?_
  refine z_callV (pc' := 2432) (st := []) (h' := gW w h0 σ' ρ' u) C (d_X9_thrown hN (v := md_thrown ρ') rfl) zy_X9_thrown zw_1236 zw_1237 zw_1238 (ci := 9) rfl (gW_c (k := 0) (by omega) rfl) rfl rfl rfl rfl (room_ok hk hn (by dsimp only [zrx, zr]; omega) (by dsimp only [zrx, zr]; omega)) dL_law_2429 rfl ?_
  refine z_iload (pc' := 2434) C 1 dL_law_2432 rfl rfl ?_
  refine z_icmp_eq (pc' := 2437) C 2439 (if_pos ht : (if _ = _ then some () else (none : Option Unit)) = some ()) dL_law_2434 rfl rfl (fun _ _ => ?_) (fun q _ => absurd ht q)
  refine z_iload (pc' := 2441) C 1 dL_law_2439 rfl rfl ?_
  refine z_if_ne (pc' := 2444) C 2455 (if_neg (by decide) : (if (1 : Int32) = 0 then (none : Option Unit) else some ()) = some ()) dL_law_2441 rfl rfl (fun _ _ => ?_) (fun q _ => absurd q (by decide))
  refine z_goto C 2707 dL_law_2455 rfl ?_
  refine z_pick (lv' := lw_lv w b i) [2, 3, 4, 5, 6] rfl ?_
  exact kk _ _ _ (by dsimp only [zrx, zr]; omega) (by dsimp only [zrx, zr]; omega)
theorem lc_deposit_x2 (hN : 396 ≤ N) (hC : lw_C X w b L xs) (hs : lw_sc L xs i q) (hk : k + 12 ≤ 601024) (hn : n + 1000 ≤ 7293033) {b9 : Int64} (hf : f_X8_deposit σ (q 1) = some (.inl ("java/lang/IllegalStateException", σ'))) (hg : g_X9_deposit ρ (q 1) = some (b9, ρ')) (ht : md_thrown ρ' = 2) (kk : lw_N X w Q b i N h0 k n σ' ρ') : zZ X w Q k n false N (gW w h0 σ ρ u) 2403 (lw_lv w b i) [] := by
  obtain ⟨C, hX, hb, hw⟩ := hC
  refine z_aload_n (pc' := 2404) C 3 dL_law_2403 rfl rfl rfl ?_
  refine z_aload_n (pc' := 2405) C 4 dL_law_2404 rfl rfl rfl ?_
  refine z_iload (pc' := 2407) C 0 dL_law_2405 rfl rfl ?_
  refine z_iconst (pc' := 2408) C dL_law_2407 zk_iconst_1 rfl ?_
  refine z_iadd (pc' := 2409) C dL_law_2408 rfl ?_
  refine z_sld (pc' := 2410) C hX hb hw (v := q 1) (hs 1 (by decide)) dL_law_2409 rfl ?_
  refine z_aload_n (pc' := 2411) C 1 dL_law_2410 rfl rfl rfl ?_
  refine z_callSW (pc' := 2414) (m := 3) (st := []) (h' := gW w h0 σ' ρ u) C (c_L_deposit_2 (a := 0) (c0 := 395) (N := N) (by omega) (by omega) (zc_w (a := 389) (o := 6) (by omega) rfl) hf) zw_1129 zw_0 (by decide +kernel) zw_1127 zw_1128 rfl rfl rfl rfl (room_ok hk hn (by dsimp only [zrx, zr]; omega) (by dsimp only [zrx, zr]; omega)) dL_law_2411 rfl ?_
  refine z_istore (pc' := 2416) C _ dL_law_2414 rfl rfl rfl ?_
  refine z_aload_n (pc' := 2417) C 3 dL_law_2416 rfl rfl rfl ?_
  refine z_aload_n (pc' := 2418) C 5 dL_law_2417 rfl rfl rfl ?_
  refine z_iload (pc' := 2420) C 1 dL_law_2418 rfl rfl ?_
  refine z_iconst (pc' := 2421) C dL_law_2420 zk_iconst_1 rfl ?_
  refine z_iadd (pc' := 2422) C dL_law_2421 rfl ?_
  refine z_sld (pc' := 2423) C hX hb hw (v := q 1) (hs 1 (by decide)) dL_law_2422 rfl ?_
  refine z_callV (pc' := 2426) (st := []) (h' := gW w h0 σ' ρ' u) C (d_X9_deposit hN  hg) zy_X9_deposit zw_1678 zw_1679 zw_1680 (ci := 9) rfl (gW_c (k := 0) (by omega) rfl) rfl rfl rfl rfl (room_ok hk hn (by dsimp only [zrx, zr]; omega) (by dsimp only [zrx, zr]; omega)) dL_law_2423 rfl ?_
  refine z_lstore (pc' := 2428) C _ dL_law_2426 rfl rfl rfl ?_
  refine z_aload_n (pc' := 2429) C 4 dL_law_2428 rfl rfl rfl ?_
  refine z_callV (pc' := 2432) (st := []) (h' := gW w h0 σ' ρ' u) C (d_X9_thrown hN (v := md_thrown ρ') rfl) zy_X9_thrown zw_1236 zw_1237 zw_1238 (ci := 9) rfl (gW_c (k := 0) (by omega) rfl) rfl rfl rfl rfl (room_ok hk hn (by dsimp only [zrx, zr]; omega) (by dsimp only [zrx, zr]; omega)) dL_law_2429 rfl ?_
  refine z_iload (pc' := 2434) C 1 dL_law_2432 rfl rfl ?_
  refine z_icmp_eq (pc' := 2437) C 2439 (if_pos ht : (if _ = _ then some () else (none : Option Unit)) = some ()) dL_law_2434 rfl rfl (fun _ _ => ?_) (fun q _ => absurd ht q)
  refine z_iload (pc' := 2441) C 1 dL_law_2439 rfl rfl ?_
  refine z_if_ne (pc' := 2444) C 2455 (if_neg (by decide) : (if (2 : Int32) = 0 then (none : Option Unit) else some ()) = some ()) dL_law_2441 rfl rfl (fun _ _ => ?_) (fun q _ => absurd q (by decide))
  refine z_goto C 2707 dL_law_2455 rfl ?_
  refine z_pick (lv' := lw_lv w b i) [2, 3, 4, 5, 6] rfl ?_
  exact kk _ _ _ (by dsimp only [zrx, zr]; omega) (by dsimp only [zrx, zr]; omega)
theorem lc_pass (hN : 396 ≤ N) (hC : lw_C X w b L xs) (hs : lw_sc L xs i q) (hk : k + 12 ≤ 601024) (hn : n + 1000 ≤ 7293033) {v : Int32} {b9 : Int32} (hf : f_X8_pass σ (q 1) = some (.inr (v, σ'))) (hg : g_X9_pass ρ (q 1) = some (b9, ρ')) (ht : md_thrown ρ' = 0) (hv : v.toInt64 = b9.toInt64) (kk : lw_N X w Q b i N h0 k n σ' ρ') : zZ X w Q k n false N (gW w h0 σ ρ u) 2458 (lw_lv w b i) [] := by
  obtain ⟨C, hX, hb, hw⟩ := hC
  refine z_aload_n (pc' := 2459) C 3 dL_law_2458 rfl rfl rfl ?_
  refine z_aload_n (pc' := 2460) C 4 dL_law_2459 rfl rfl rfl ?_
  refine z_iload (pc' := 2462) C 0 dL_law_2460 rfl rfl ?_
  refine z_iconst (pc' := 2463) C dL_law_2462 zk_iconst_1 rfl ?_
  refine z_iadd (pc' := 2464) C dL_law_2463 rfl ?_
  refine z_sld (pc' := 2465) C hX hb hw (v := q 1) (hs 1 (by decide)) dL_law_2464 rfl ?_
  refine z_aload_n (pc' := 2466) C 1 dL_law_2465 rfl rfl rfl ?_
  refine z_callSW (pc' := 2469) (m := 3) (st := []) (h' := gW w h0 σ' ρ (vp_updL u 0 (v.toInt64))) C (zMw_eq gW_o (c_L_pass (a := 0) (c0 := 395) (N := N) (by omega) (by omega) (zc_w (a := 389) (o := 6) (by omega) rfl) hf)) zw_1142 zw_0 (by decide +kernel) zw_1140 zw_1141 rfl rfl rfl rfl (room_ok hk hn (by dsimp only [zrx, zr]; omega) (by dsimp only [zrx, zr]; omega)) dL_law_2466 rfl ?_
  refine z_istore (pc' := 2471) C _ dL_law_2469 rfl rfl rfl ?_
  refine z_aload_n (pc' := 2472) C 3 dL_law_2471 rfl rfl rfl ?_
  refine z_aload_n (pc' := 2473) C 5 dL_law_2472 rfl rfl rfl ?_
  refine z_iload (pc' := 2475) C 1 dL_law_2473 rfl rfl ?_
  refine z_iconst (pc' := 2476) C dL_law_2475 zk_iconst_1 rfl ?_
  refine z_iadd (pc' := 2477) C dL_law_2476 rfl ?_
  refine z_sld (pc' := 2478) C hX hb hw (v := q 1) (hs 1 (by decide)) dL_law_2477 rfl ?_
  refine z_callV (pc' := 2481) (st := []) (h' := gW w h0 σ' ρ' (vp_updL u 0 (v.toInt64))) C (d_X9_pass hN  hg) zy_X9_pass zw_1684 zw_1685 zw_1686 (ci := 9) rfl (gW_c (k := 0) (by omega) rfl) rfl rfl rfl rfl (room_ok hk hn (by dsimp only [zrx, zr]; omega) (by dsimp only [zrx, zr]; omega)) dL_law_2478 rfl ?_
  refine z_istore (pc' := 2483) C _ dL_law_2481 rfl rfl rfl ?_
  refine z_aload_n (pc' := 2484) C 4 dL_law_2483 rfl rfl rfl ?_
  refine z_callV (pc' := 2487) (st := []) (h' := gW w h0 σ' ρ' (vp_updL u 0 (v.toInt64))) C (d_X9_thrown hN (v := md_thrown ρ') rfl) zy_X9_thrown zw_1236 zw_1237 zw_1238 (ci := 9) rfl (gW_c (k := 0) (by omega) rfl) rfl rfl rfl rfl (room_ok hk hn (by dsimp only [zrx, zr]; omega) (by dsimp only [zrx, zr]; omega)) dL_law_2484 rfl ?_
  refine z_iload (pc' := 2489) C 1 dL_law_2487 rfl rfl ?_
  refine z_icmp_eq (pc' := 2492) C 2494 (if_pos ht : (if _ = _ then some () else (none : Option Unit)) = some ()) dL_law_2489 rfl rfl (fun _ _ => ?_) (fun q _ => absurd ht q)
  refine z_iload (pc' := 2496) C 1 dL_law_2494 rfl rfl ?_
  refine z_if_ne (pc' := 2499) C 2511 (if_pos rfl : (if (0 : Int32) = 0 then some () else (none : Option Unit)) = some ()) dL_law_2496 rfl rfl (fun q _ => absurd rfl q) (fun _ _ => ?_)
  refine z_aload_n (pc' := 2500) C 3 dL_law_2499 rfl rfl rfl ?_
  refine z_iconst (pc' := 2501) C dL_law_2500 zk_iconst_0 rfl ?_
  refine z_lald (pc' := 2502) C (K := fun v => some v) rfl (gW_c (k := 6) (by omega) rfl) dL_law_2501 rfl (fun v0 hv0 => ?_)
  cases hv0
  refine z_iload (pc' := 2504) C 0 dL_law_2502 rfl rfl ?_
  refine z_i2l (pc' := 2505) C dL_law_2504 rfl ?_
  refine z_lcmp_eq (pc' := 2509) (pc1 := 2506) C 2511 (if_pos hv : (if _ = _ then some () else (none : Option Unit)) = some ()) dL_law_2505 rfl dL_law_2506 rfl rfl (fun _ _ => ?_) (fun q _ => absurd hv q)
  refine z_goto C 2707 dL_law_2511 rfl ?_
  refine z_pick (lv' := lw_lv w b i) [2, 3, 4, 5, 6] rfl ?_
  exact kk _ _ _ (by dsimp only [zrx, zr]; omega) (by dsimp only [zrx, zr]; omega)
theorem lc_pass_x1 (hN : 396 ≤ N) (hC : lw_C X w b L xs) (hs : lw_sc L xs i q) (hk : k + 12 ≤ 601024) (hn : n + 1000 ≤ 7293033) {b9 : Int32} (hf : f_X8_pass σ (q 1) = some (.inl ("java/lang/IllegalArgumentException", σ'))) (hg : g_X9_pass ρ (q 1) = some (b9, ρ')) (ht : md_thrown ρ' = 1) (kk : lw_N X w Q b i N h0 k n σ' ρ') : zZ X w Q k n false N (gW w h0 σ ρ u) 2458 (lw_lv w b i) [] := by
  obtain ⟨C, hX, hb, hw⟩ := hC
  refine z_aload_n (pc' := 2459) C 3 dL_law_2458 rfl rfl rfl ?_
  refine z_aload_n (pc' := 2460) C 4 dL_law_2459 rfl rfl rfl ?_
  refine z_iload (pc' := 2462) C 0 dL_law_2460 rfl rfl ?_
  refine z_iconst (pc' := 2463) C dL_law_2462 zk_iconst_1 rfl ?_
  refine z_iadd (pc' := 2464) C dL_law_2463 rfl ?_
  refine z_sld (pc' := 2465) C hX hb hw (v := q 1) (hs 1 (by decide)) dL_law_2464 rfl ?_
  refine z_aload_n (pc' := 2466) C 1 dL_law_2465 rfl rfl rfl ?_
  refine z_callSW (pc' := 2469) (m := 3) (st := []) (h' := gW w h0 σ' ρ u) C (c_L_pass_1 (a := 0) (c0 := 395) (N := N) (by omega) (by omega) (zc_w (a := 389) (o := 6) (by omega) rfl) hf) zw_1142 zw_0 (by decide +kernel) zw_1140 zw_1141 rfl rfl rfl rfl (room_ok hk hn (by dsimp only [zrx, zr]; omega) (by dsimp only [zrx, zr]; omega)) dL_law_2466 rfl ?_
  refine z_istore (pc' := 2471) C _ dL_law_2469 rfl rfl rfl ?_
  refine z_aload_n (pc' := 2472) C 3 dL_law_2471 rfl rfl rfl ?_
  refine z_aload_n (pc' := 2473) C 5 dL_law_2472 rfl rfl rfl ?_
  refine z_iload (pc' := 2475) C 1 dL_law_2473 rfl rfl ?_
  refine z_iconst (pc' := 2476) C dL_law_2475 zk_iconst_1 rfl ?_
  refine z_iadd (pc' := 2477) C dL_law_2476 rfl ?_
  refine z_sld (pc' := 2478) C hX hb hw (v := q 1) (hs 1 (by decide)) dL_law_2477 rfl ?_
  refine z_callV (pc' := 2481) (st := []) (h' := gW w h0 σ' ρ' u) C (d_X9_pass hN  hg) zy_X9_pass zw_1684 zw_1685 zw_1686 (ci := 9) rfl (gW_c (k := 0) (by omega) rfl) rfl rfl rfl rfl (room_ok hk hn (by dsimp only [zrx, zr]; omega) (by dsimp only [zrx, zr]; omega)) dL_law_2478 rfl ?_
  refine z_istore (pc' := 2483) C _ dL_law_2481 rfl rfl rfl ?_
  refine z_aload_n (pc' := 2484) C 4 dL_law_2483 rfl rfl rfl ?_
  refine z_callV (pc' := 2487) (st := []) (h' := gW w h0 σ' ρ' u) C (d_X9_thrown hN (v := md_thrown ρ') rfl) zy_X9_thrown zw_1236 zw_1237 zw_1238 (ci := 9) rfl (gW_c (k := 0) (by omega) rfl) rfl rfl rfl rfl (room_ok hk hn (by dsimp only [zrx, zr]; omega) (by dsimp only [zrx, zr]; omega)) dL_law_2484 rfl ?_
  refine z_iload (pc' := 2489) C 1 dL_law_2487 rfl rfl ?_
  refine z_icmp_eq (pc' := 2492) C 2494 (if_pos ht : (if _ = _ then some () else (none : Option Unit)) = some ()) dL_law_2489 rfl rfl (fun _ _ => ?_) (fun q _ => absurd ht q)
  refine z_iload (pc' := 2496) C 1 dL_law_2494 rfl rfl ?_
  refine z_if_ne (pc' := 2499) C 2511 (if_neg (by decide) : (if (1 : Int32) = 0 then (none : Option Unit) else some ()) = some ()) dL_law_2496 rfl rfl (fun _ _ => ?_) (fun q _ => absurd q (by decide))
  refine z_goto C 2707 dL_law_2511 rfl ?_
  refine z_pick (lv' := lw_lv w b i) [2, 3, 4, 5, 6] rfl ?_
  exact kk _ _ _ (by dsimp only [zrx, zr]; omega) (by dsimp only [zrx, zr]; omega)
theorem lc_pass_x2 (hN : 396 ≤ N) (hC : lw_C X w b L xs) (hs : lw_sc L xs i q) (hk : k + 12 ≤ 601024) (hn : n + 1000 ≤ 7293033) {b9 : Int32} (hf : f_X8_pass σ (q 1) = some (.inl ("java/lang/IllegalStateException", σ'))) (hg : g_X9_pass ρ (q 1) = some (b9, ρ')) (ht : md_thrown ρ' = 2) (kk : lw_N X w Q b i N h0 k n σ' ρ') : zZ X w Q k n false N (gW w h0 σ ρ u) 2458 (lw_lv w b i) [] := by
  obtain ⟨C, hX, hb, hw⟩ := hC
  refine z_aload_n (pc' := 2459) C 3 dL_law_2458 rfl rfl rfl ?_
  refine z_aload_n (pc' := 2460) C 4 dL_law_2459 rfl rfl rfl ?_
  refine z_iload (pc' := 2462) C 0 dL_law_2460 rfl rfl ?_
  refine z_iconst (pc' := 2463) C dL_law_2462 zk_iconst_1 rfl ?_
  refine z_iadd (pc' := 2464) C dL_law_2463 rfl ?_
  refine z_sld (pc' := 2465) C hX hb hw (v := q 1) (hs 1 (by decide)) dL_law_2464 rfl ?_
  refine z_aload_n (pc' := 2466) C 1 dL_law_2465 rfl rfl rfl ?_
  refine z_callSW (pc' := 2469) (m := 3) (st := []) (h' := gW w h0 σ' ρ u) C (c_L_pass_2 (a := 0) (c0 := 395) (N := N) (by omega) (by omega) (zc_w (a := 389) (o := 6) (by omega) rfl) hf) zw_1142 zw_0 (by decide +kernel) zw_1140 zw_1141 rfl rfl rfl rfl (room_ok hk hn (by dsimp only [zrx, zr]; omega) (by dsimp only [zrx, zr]; omega)) dL_law_2466 rfl ?_
  refine z_istore (pc' := 2471) C _ dL_law_2469 rfl rfl rfl ?_
  refine z_aload_n (pc' := 2472) C 3 dL_law_2471 rfl rfl rfl ?_
  refine z_aload_n (pc' := 2473) C 5 dL_law_2472 rfl rfl rfl ?_
  refine z_iload (pc' := 2475) C 1 dL_law_2473 rfl rfl ?_
  refine z_iconst (pc' := 2476) C dL_law_2475 zk_iconst_1 rfl ?_
  refine z_iadd (pc' := 2477) C dL_law_2476 rfl ?_
  refine z_sld (pc' := 2478) C hX hb hw (v := q 1) (hs 1 (by decide)) dL_law_2477 rfl ?_
  refine z_callV (pc' := 2481) (st := []) (h' := gW w h0 σ' ρ' u) C (d_X9_pass hN  hg) zy_X9_pass zw_1684 zw_1685 zw_1686 (ci := 9) rfl (gW_c (k := 0) (by omega) rfl) rfl rfl rfl rfl (room_ok hk hn (by dsimp only [zrx, zr]; omega) (by dsimp only [zrx, zr]; omega)) dL_law_2478 rfl ?_
  refine z_istore (pc' := 2483) C _ dL_law_2481 rfl rfl rfl ?_
  refine z_aload_n (pc' := 2484) C 4 dL_law_2483 rfl rfl rfl ?_
  refine z_callV (pc' := 2487) (st := []) (h' := gW w h0 σ' ρ' u) C (d_X9_thrown hN (v := md_thrown ρ') rfl) zy_X9_thrown zw_1236 zw_1237 zw_1238 (ci := 9) rfl (gW_c (k := 0) (by omega) rfl) rfl rfl rfl rfl (room_ok hk hn (by dsimp only [zrx, zr]; omega) (by dsimp only [zrx, zr]; omega)) dL_law_2484 rfl ?_
  refine z_iload (pc' := 2489) C 1 dL_law_2487 rfl rfl ?_
  refine z_icmp_eq (pc' := 2492) C 2494 (if_pos ht : (if _ = _ then some () else (none : Option Unit)) = some ()) dL_law_2489 rfl rfl (fun _ _ => ?_) (fun q _ => absurd ht q)
  refine z_iload (pc' := 2496) C 1 dL_law_2494 rfl rfl ?_
  refine z_if_ne (pc' := 2499) C 2511 (if_neg (by decide) : (if (2 : Int32) = 0 then (none : Option Unit) else some ()) = some ()) dL_law_2496 rfl rfl (fun _ _ => ?_) (fun q _ => absurd q (by decide))
  refine z_goto C 2707 dL_law_2511 rfl ?_
  refine z_pick (lv' := lw_lv w b i) [2, 3, 4, 5, 6] rfl ?_
  exact kk _ _ _ (by dsimp only [zrx, zr]; omega) (by dsimp only [zrx, zr]; omega)
theorem lc_settle (hN : 396 ≤ N) (hC : lw_C X w b L xs) (hs : lw_sc L xs i q) (hk : k + 12 ≤ 601024) (hn : n + 1000 ≤ 7293033) {v : Int64} {b9 : Int64} (hf : f_X8_settle σ (q 1) = some (.inr (v, σ'))) (hg : g_X9_settle ρ (q 1) = some (b9, ρ')) (ht : md_thrown ρ' = 0) (hv : v = b9) (kk : lw_N X w Q b i N h0 k n σ' ρ') : zZ X w Q k n false N (gW w h0 σ ρ u) 2514 (lw_lv w b i) [] := by
  obtain ⟨C, hX, hb, hw⟩ := hC
  refine z_aload_n (pc' := 2515) C 3 dL_law_2514 rfl rfl rfl ?_
  refine z_aload_n (pc' := 2516) C 4 dL_law_2515 rfl rfl rfl ?_
  refine z_iload (pc' := 2518) C 0 dL_law_2516 rfl rfl ?_
  refine z_iconst (pc' := 2519) C dL_law_2518 zk_iconst_1 rfl ?_
  refine z_iadd (pc' := 2520) C dL_law_2519 rfl ?_
  refine z_sld (pc' := 2521) C hX hb hw (v := q 1) (hs 1 (by decide)) dL_law_2520 rfl ?_
  refine z_aload_n (pc' := 2522) C 1 dL_law_2521 rfl rfl rfl ?_
  refine z_callSW (pc' := 2525) (m := 3) (st := []) (h' := gW w h0 σ' ρ (vp_updL u 0 (v))) C (zMw_eq gW_o (c_L_settle (a := 0) (c0 := 395) (N := N) (by omega) (by omega) (zc_w (a := 389) (o := 6) (by omega) rfl) hf)) zw_1150 zw_0 (by decide +kernel) zw_1148 zw_1149 rfl rfl rfl rfl (room_ok hk hn (by dsimp only [zrx, zr]; omega) (by dsimp only [zrx, zr]; omega)) dL_law_2522 rfl ?_
  refine z_istore (pc' := 2527) C _ dL_law_2525 rfl rfl rfl ?_
  refine z_aload_n (pc' := 2528) C 3 dL_law_2527 rfl rfl rfl ?_
  refine z_aload_n (pc' := 2529) C 5 dL_law_2528 rfl rfl rfl ?_
  refine z_iload (pc' := 2531) C 1 dL_law_2529 rfl rfl ?_
  refine z_iconst (pc' := 2532) C dL_law_2531 zk_iconst_1 rfl ?_
  refine z_iadd (pc' := 2533) C dL_law_2532 rfl ?_
  refine z_sld (pc' := 2534) C hX hb hw (v := q 1) (hs 1 (by decide)) dL_law_2533 rfl ?_
  refine z_callV (pc' := 2537) (st := []) (h' := gW w h0 σ' ρ' (vp_updL u 0 (v))) C (d_X9_settle hN  hg) zy_X9_settle zw_1690 zw_1691 zw_1692 (ci := 9) rfl (gW_c (k := 0) (by omega) rfl) rfl rfl rfl rfl (room_ok hk hn (by dsimp only [zrx, zr]; omega) (by dsimp only [zrx, zr]; omega)) dL_law_2534 rfl ?_
  refine z_lstore (pc' := 2539) C _ dL_law_2537 rfl rfl rfl ?_
  refine z_aload_n (pc' := 2540) C 4 dL_law_2539 rfl rfl rfl ?_
  refine z_callV (pc' := 2543) (st := []) (h' := gW w h0 σ' ρ' (vp_updL u 0 (v))) C (d_X9_thrown hN (v := md_thrown ρ') rfl) zy_X9_thrown zw_1236 zw_1237 zw_1238 (ci := 9) rfl (gW_c (k := 0) (by omega) rfl) rfl rfl rfl rfl (room_ok hk hn (by dsimp only [zrx, zr]; omega) (by dsimp only [zrx, zr]; omega)) dL_law_2540 rfl ?_
  refine z_iload (pc' := 2545) C 1 dL_law_2543 rfl rfl ?_
  refine z_icmp_eq (pc' := 2548) C 2550 (if_pos ht : (if _ = _ then some () else (none : Option Unit)) = some ()) dL_law_2545 rfl rfl (fun _ _ => ?_) (fun q _ => absurd ht q)
  refine z_iload (pc' := 2552) C 1 dL_law_2550 rfl rfl ?_
  refine z_if_ne (pc' := 2555) C 2566 (if_pos rfl : (if (0 : Int32) = 0 then some () else (none : Option Unit)) = some ()) dL_law_2552 rfl rfl (fun q _ => absurd rfl q) (fun _ _ => ?_)
  refine z_aload_n (pc' := 2556) C 3 dL_law_2555 rfl rfl rfl ?_
  refine z_iconst (pc' := 2557) C dL_law_2556 zk_iconst_0 rfl ?_
  refine z_lald (pc' := 2558) C (K := fun v => some v) rfl (gW_c (k := 6) (by omega) rfl) dL_law_2557 rfl (fun v0 hv0 => ?_)
  cases hv0
  refine z_lload (pc' := 2560) C 0 dL_law_2558 rfl rfl ?_
  refine z_lcmp_eq (pc' := 2564) (pc1 := 2561) C 2566 (if_pos hv : (if _ = _ then some () else (none : Option Unit)) = some ()) dL_law_2560 rfl dL_law_2561 rfl rfl (fun _ _ => ?_) (fun q _ => absurd hv q)
  refine z_goto C 2707 dL_law_2566 rfl ?_
  refine z_pick (lv' := lw_lv w b i) [2, 3, 4, 5, 6] rfl ?_
  exact kk _ _ _ (by dsimp only [zrx, zr]; omega) (by dsimp only [zrx, zr]; omega)
theorem lc_settle_x1 (hN : 396 ≤ N) (hC : lw_C X w b L xs) (hs : lw_sc L xs i q) (hk : k + 12 ≤ 601024) (hn : n + 1000 ≤ 7293033) {b9 : Int64} (hf : f_X8_settle σ (q 1) = some (.inl ("java/lang/IllegalArgumentException", σ'))) (hg : g_X9_settle ρ (q 1) = some (b9, ρ')) (ht : md_thrown ρ' = 1) (kk : lw_N X w Q b i N h0 k n σ' ρ') : zZ X w Q k n false N (gW w h0 σ ρ u) 2514 (lw_lv w b i) [] := by
  obtain ⟨C, hX, hb, hw⟩ := hC
  refine z_aload_n (pc' := 2515) C 3 dL_law_2514 rfl rfl rfl ?_
  refine z_aload_n (pc' := 2516) C 4 dL_law_2515 rfl rfl rfl ?_
  refine z_iload (pc' := 2518) C 0 dL_law_2516 rfl rfl ?_
  refine z_iconst (pc' := 2519) C dL_law_2518 zk_iconst_1 rfl ?_
  refine z_iadd (pc' := 2520) C dL_law_2519 rfl ?_
  refine z_sld (pc' := 2521) C hX hb hw (v := q 1) (hs 1 (by decide)) dL_law_2520 rfl ?_
  refine z_aload_n (pc' := 2522) C 1 dL_law_2521 rfl rfl rfl ?_
  refine z_callSW (pc' := 2525) (m := 3) (st := []) (h' := gW w h0 σ' ρ u) C (c_L_settle_1 (a := 0) (c0 := 395) (N := N) (by omega) (by omega) (zc_w (a := 389) (o := 6) (by omega) rfl) hf) zw_1150 zw_0 (by decide +kernel) zw_1148 zw_1149 rfl rfl rfl rfl (room_ok hk hn (by dsimp only [zrx, zr]; omega) (by dsimp only [zrx, zr]; omega)) dL_law_2522 rfl ?_
  refine z_istore (pc' := 2527) C _ dL_law_2525 rfl rfl rfl ?_
  refine z_aload_n (pc' := 2528) C 3 dL_law_2527 rfl rfl rfl ?_
  refine z_aload_n (pc' := 2529) C 5 dL_law_2528 rfl rfl rfl ?_
  refine z_iload (pc' := 2531) C 1 dL_law_2529 rfl rfl ?_
  refine z_iconst (pc' := 2532) C dL_law_2531 zk_iconst_1 rfl ?_
  refine z_iadd (pc' := 2533) C dL_law_2532 rfl ?_
  refine z_sld (pc' := 2534) C hX hb hw (v := q 1) (hs 1 (by decide)) dL_law_2533 rfl ?_
  refine z_callV (pc' := 2537) (st := []) (h' := gW w h0 σ' ρ' u) C (d_X9_settle hN  hg) zy_X9_settle zw_1690 zw_1691 zw_1692 (ci := 9) rfl (gW_c (k := 0) (by omega) rfl) rfl rfl rfl rfl (room_ok hk hn (by dsimp only [zrx, zr]; omega) (by dsimp only [zrx, zr]; omega)) dL_law_2534 rfl ?_
  refine z_lstore (pc' := 2539) C _ dL_law_2537 rfl rfl rfl ?_
  refine z_aload_n (pc' := 2540) C 4 dL_law_2539 rfl rfl rfl ?_
  refine z_callV (pc' := 2543) (st := []) (h' := gW w h0 σ' ρ' u) C (d_X9_thrown hN (v := md_thrown ρ') rfl) zy_X9_thrown zw_1236 zw_1237 zw_1238 (ci := 9) rfl (gW_c (k := 0) (by omega) rfl) rfl rfl rfl rfl (room_ok hk hn (by dsimp only [zrx, zr]; omega) (by dsimp only [zrx, zr]; omega)) dL_law_2540 rfl ?_
  refine z_iload (pc' := 2545) C 1 dL_law_2543 rfl rfl ?_
  refine z_icmp_eq (pc' := 2548) C 2550 (if_pos ht : (if _ = _ then some () else (none : Option Unit)) = some ()) dL_law_2545 rfl rfl (fun _ _ => ?_) (fun q _ => absurd ht q)
  refine z_iload (pc' := 2552) C 1 dL_law_2550 rfl rfl ?_
  refine z_if_ne (pc' := 2555) C 2566 (if_neg (by decide) : (if (1 : Int32) = 0 then (none : Option Unit) else some ()) = some ()) dL_law_2552 rfl rfl (fun _ _ => ?_) (fun q _ => absurd q (by decide))
  refine z_goto C 2707 dL_law_2566 rfl ?_
  refine z_pick (lv' := lw_lv w b i) [2, 3, 4, 5, 6] rfl ?_
  exact kk _ _ _ (by dsimp only [zrx, zr]; omega) (by dsimp only [zrx, zr]; omega)
theorem lc_settle_x2 (hN : 396 ≤ N) (hC : lw_C X w b L xs) (hs : lw_sc L xs i q) (hk : k + 12 ≤ 601024) (hn : n + 1000 ≤ 7293033) {b9 : Int64} (hf : f_X8_settle σ (q 1) = some (.inl ("java/lang/IllegalStateException", σ'))) (hg : g_X9_settle ρ (q 1) = some (b9, ρ')) (ht : md_thrown ρ' = 2) (kk : lw_N X w Q b i N h0 k n σ' ρ') : zZ X w Q k n false N (gW w h0 σ ρ u) 2514 (lw_lv w b i) [] := by
  obtain ⟨C, hX, hb, hw⟩ := hC
  refine z_aload_n (pc' := 2515) C 3 dL_law_2514 rfl rfl rfl ?_
  refine z_aload_n (pc' := 2516) C 4 dL_law_2515 rfl rfl rfl ?_
  refine z_iload (pc' := 2518) C 0 dL_law_2516 rfl rfl ?_
  refine z_iconst (pc' := 2519) C dL_law_2518 zk_iconst_1 rfl ?_
  refine z_iadd (pc' := 2520) C dL_law_2519 rfl ?_
  refine z_sld (pc' := 2521) C hX hb hw (v := q 1) (hs 1 (by decide)) dL_law_2520 rfl ?_
  refine z_aload_n (pc' := 2522) C 1 dL_law_2521 rfl rfl rfl ?_
  refine z_callSW (pc' := 2525) (m := 3) (st := []) (h' := gW w h0 σ' ρ u) C (c_L_settle_2 (a := 0) (c0 := 395) (N := N) (by omega) (by omega) (zc_w (a := 389) (o := 6) (by omega) rfl) hf) zw_1150 zw_0 (by decide +kernel) zw_1148 zw_1149 rfl rfl rfl rfl (room_ok hk hn (by dsimp only [zrx, zr]; omega) (by dsimp only [zrx, zr]; omega)) dL_law_2522 rfl ?_
  refine z_istore (pc' := 2527) C _ dL_law_2525 rfl rfl rfl ?_
  refine z_aload_n (pc' := 2528) C 3 dL_law_2527 rfl rfl rfl ?_
  refine z_aload_n (pc' := 2529) C 5 dL_law_2528 rfl rfl rfl ?_
  refine z_iload (pc' := 2531) C 1 dL_law_2529 rfl rfl ?_
  refine z_iconst (pc' := 2532) C dL_law_2531 zk_iconst_1 rfl ?_
  refine z_iadd (pc' := 2533) C dL_law_2532 rfl ?_
  refine z_sld (pc' := 2534) C hX hb hw (v := q 1) (hs 1 (by decide)) dL_law_2533 rfl ?_
  refine z_callV (pc' := 2537) (st := []) (h' := gW w h0 σ' ρ' u) C (d_X9_settle hN  hg) zy_X9_settle zw_1690 zw_1691 zw_1692 (ci := 9) rfl (gW_c (k := 0) (by omega) rfl) rfl rfl rfl rfl (room_ok hk hn (by dsimp only [zrx, zr]; omega) (by dsimp only [zrx, zr]; omega)) dL_law_2534 rfl ?_
  refine z_lstore (pc' := 2539) C _ dL_law_2537 rfl rfl rfl ?_
  refine z_aload_n (pc' := 2540) C 4 dL_law_2539 rfl rfl rfl ?_
  refine z_callV (pc' := 2543) (st := []) (h' := gW w h0 σ' ρ' u) C (d_X9_thrown hN (v := md_thrown ρ') rfl) zy_X9_thrown zw_1236 zw_1237 zw_1238 (ci := 9) rfl (gW_c (k := 0) (by omega) rfl) rfl rfl rfl rfl (room_ok hk hn (by dsimp only [zrx, zr]; omega) (by dsimp only [zrx, zr]; omega)) dL_law_2540 rfl ?_
  refine z_iload (pc' := 2545) C 1 dL_law_2543 rfl rfl ?_
  refine z_icmp_eq (pc' := 2548) C 2550 (if_pos ht : (if _ = _ then some () else (none : Option Unit)) = some ()) dL_law_2545 rfl rfl (fun _ _ => ?_) (fun q _ => absurd ht q)
  refine z_iload (pc' := 2552) C 1 dL_law_2550 rfl rfl ?_
  refine z_if_ne (pc' := 2555) C 2566 (if_neg (by decide) : (if (2 : Int32) = 0 then (none : Option Unit) else some ()) = some ()) dL_law_2552 rfl rfl (fun _ _ => ?_) (fun q _ => absurd q (by decide))
  refine z_goto C 2707 dL_law_2566 rfl ?_
  refine z_pick (lv' := lw_lv w b i) [2, 3, 4, 5, 6] rfl ?_
  exact kk _ _ _ (by dsimp only [zrx, zr]; omega) (by dsimp only [zrx, zr]; omega)
theorem lc_fileLien (hN : 396 ≤ N) (hC : lw_C X w b L xs) (hs : lw_sc L xs i q) (hk : k + 12 ≤ 601024) (hn : n + 1000 ≤ 7293033) {v : Int32} {b9 : Int32} (hf : f_X8_fileLien σ (q 1) = some (.inr (v, σ'))) (hg : g_X9_fileLien ρ (q 1) = some (b9, ρ')) (ht : md_thrown ρ' = 0) (hv : v.toInt64 = b9.toInt64) (kk : lw_N X w Q b i N h0 k n σ' ρ') : zZ X w Q k n false N (gW w h0 σ ρ u) 2569 (lw_lv w b i) [] := by
  obtain ⟨C, hX, hb, hw⟩ := hC
  refine z_aload_n (pc' := 2570) C 3 dL_law_2569 rfl rfl rfl ?_
  refine z_aload_n (pc' := 2571) C 4 dL_law_2570 rfl rfl rfl ?_
  refine z_iload (pc' := 2573) C 0 dL_law_2571 rfl rfl ?_
  refine z_iconst (pc' := 2574) C dL_law_2573 zk_iconst_1 rfl ?_
  refine z_iadd (pc' := 2575) C dL_law_2574 rfl ?_
  refine z_sld (pc' := 2576) C hX hb hw (v := q 1) (hs 1 (by decide)) dL_law_2575 rfl ?_
  refine z_aload_n (pc' := 2577) C 1 dL_law_2576 rfl rfl rfl ?_
  refine z_callSW (pc' := 2580) (m := 3) (st := []) (h' := gW w h0 σ' ρ (vp_updL u 0 (v.toInt64))) C (zMw_eq gW_o (c_L_fileLien (a := 0) (c0 := 395) (N := N) (by omega) (by omega) (zc_w (a := 389) (o := 6) (by omega) rfl) hf)) zw_1157 zw_0 (by decide +kernel) zw_1155 zw_1156 rfl rfl rfl rfl (room_ok hk hn (by dsimp only [zrx, zr]; omega) (by dsimp only [zrx, zr]; omega)) dL_law_2577 rfl ?_
  refine z_istore (pc' := 2582) C _ dL_law_2580 rfl rfl rfl ?_
  refine z_aload_n (pc' := 2583) C 3 dL_law_2582 rfl rfl rfl ?_
  refine z_aload_n (pc' := 2584) C 5 dL_law_2583 rfl rfl rfl ?_
  refine z_iload (pc' := 2586) C 1 dL_law_2584 rfl rfl ?_
  refine z_iconst (pc' := 2587) C dL_law_2586 zk_iconst_1 rfl ?_
  refine z_iadd (pc' := 2588) C dL_law_2587 rfl ?_
  refine z_sld (pc' := 2589) C hX hb hw (v := q 1) (hs 1 (by decide)) dL_law_2588 rfl ?_
  refine z_callV (pc' := 2592) (st := []) (h' := gW w h0 σ' ρ' (vp_updL u 0 (v.toInt64))) C (d_X9_fileLien hN  hg) zy_X9_fileLien zw_1694 zw_1695 zw_1696 (ci := 9) rfl (gW_c (k := 0) (by omega) rfl) rfl rfl rfl rfl (room_ok hk hn (by dsimp only [zrx, zr]; omega) (by dsimp only [zrx, zr]; omega)) dL_law_2589 rfl ?_
  refine z_istore (pc' := 2594) C _ dL_law_2592 rfl rfl rfl ?_
  refine z_aload_n (pc' := 2595) C 4 dL_law_2594 rfl rfl rfl ?_
  refine z_callV (pc' := 2598) (st := []) (h' := gW w h0 σ' ρ' (vp_updL u 0 (v.toInt64))) C (d_X9_thrown hN (v := md_thrown ρ') rfl) zy_X9_thrown zw_1236 zw_1237 zw_1238 (ci := 9) rfl (gW_c (k := 0) (by omega) rfl) rfl rfl rfl rfl (room_ok hk hn (by dsimp only [zrx, zr]; omega) (by dsimp only [zrx, zr]; omega)) dL_law_2595 rfl ?_
  refine z_iload (pc' := 2600) C 1 dL_law_2598 rfl rfl ?_
  refine z_icmp_eq (pc' := 2603) C 2605 (if_pos ht : (if _ = _ then some () else (none : Option Unit)) = some ()) dL_law_2600 rfl rfl (fun _ _ => ?_) (fun q _ => absurd ht q)
  refine z_iload (pc' := 2607) C 1 dL_law_2605 rfl rfl ?_
  refine z_if_ne (pc' := 2610) C 2622 (if_pos rfl : (if (0 : Int32) = 0 then some () else (none : Option Unit)) = some ()) dL_law_2607 rfl rfl (fun q _ => absurd rfl q) (fun _ _ => ?_)
  refine z_aload_n (pc' := 2611) C 3 dL_law_2610 rfl rfl rfl ?_
  refine z_iconst (pc' := 2612) C dL_law_2611 zk_iconst_0 rfl ?_
  refine z_lald (pc' := 2613) C (K := fun v => some v) rfl (gW_c (k := 6) (by omega) rfl) dL_law_2612 rfl (fun v0 hv0 => ?_)
  cases hv0
  refine z_iload (pc' := 2615) C 0 dL_law_2613 rfl rfl ?_
  refine z_i2l (pc' := 2616) C dL_law_2615 rfl ?_
  refine z_lcmp_eq (pc' := 2620) (pc1 := 2617) C 2622 (if_pos hv : (if _ = _ then some () else (none : Option Unit)) = some ()) dL_law_2616 rfl dL_law_2617 rfl rfl (fun _ _ => ?_) (fun q _ => absurd hv q)
  refine z_goto C 2707 dL_law_2622 rfl ?_
  refine z_pick (lv' := lw_lv w b i) [2, 3, 4, 5, 6] rfl ?_
  exact kk _ _ _ (by dsimp only [zrx, zr]; omega) (by dsimp only [zrx, zr]; omega)
theorem lc_fileLien_x1 (hN : 396 ≤ N) (hC : lw_C X w b L xs) (hs : lw_sc L xs i q) (hk : k + 12 ≤ 601024) (hn : n + 1000 ≤ 7293033) {b9 : Int32} (hf : f_X8_fileLien σ (q 1) = some (.inl ("java/lang/IndexOutOfBoundsException", σ'))) (hg : g_X9_fileLien ρ (q 1) = some (b9, ρ')) (ht : md_thrown ρ' = 1) (kk : lw_N X w Q b i N h0 k n σ' ρ') : zZ X w Q k n false N (gW w h0 σ ρ u) 2569 (lw_lv w b i) [] := by
  obtain ⟨C, hX, hb, hw⟩ := hC
  refine z_aload_n (pc' := 2570) C 3 dL_law_2569 rfl rfl rfl ?_
  refine z_aload_n (pc' := 2571) C 4 dL_law_2570 rfl rfl rfl ?_
  refine z_iload (pc' := 2573) C 0 dL_law_2571 rfl rfl ?_
  refine z_iconst (pc' := 2574) C dL_law_2573 zk_iconst_1 rfl ?_
  refine z_iadd (pc' := 2575) C dL_law_2574 rfl ?_
  refine z_sld (pc' := 2576) C hX hb hw (v := q 1) (hs 1 (by decide)) dL_law_2575 rfl ?_
  refine z_aload_n (pc' := 2577) C 1 dL_law_2576 rfl rfl rfl ?_
  refine z_callSW (pc' := 2580) (m := 3) (st := []) (h' := gW w h0 σ' ρ u) C (c_L_fileLien_1 (a := 0) (c0 := 395) (N := N) (by omega) (by omega) (zc_w (a := 389) (o := 6) (by omega) rfl) hf) zw_1157 zw_0 (by decide +kernel) zw_1155 zw_1156 rfl rfl rfl rfl (room_ok hk hn (by dsimp only [zrx, zr]; omega) (by dsimp only [zrx, zr]; omega)) dL_law_2577 rfl ?_
  refine z_istore (pc' := 2582) C _ dL_law_2580 rfl rfl rfl ?_
  refine z_aload_n (pc' := 2583) C 3 dL_law_2582 rfl rfl rfl ?_
  refine z_aload_n (pc' := 2584) C 5 dL_law_2583 rfl rfl rfl ?_
  refine z_iload (pc' := 2586) C 1 dL_law_2584 rfl rfl ?_
  refine z_iconst (pc' := 2587) C dL_law_2586 zk_iconst_1 rfl ?_
  refine z_iadd (pc' := 2588) C dL_law_2587 rfl ?_
  refine z_sld (pc' := 2589) C hX hb hw (v := q 1) (hs 1 (by decide)) dL_law_2588 rfl ?_
  refine z_callV (pc' := 2592) (st := []) (h' := gW w h0 σ' ρ' u) C (d_X9_fileLien hN  hg) zy_X9_fileLien zw_1694 zw_1695 zw_1696 (ci := 9) rfl (gW_c (k := 0) (by omega) rfl) rfl rfl rfl rfl (room_ok hk hn (by dsimp only [zrx, zr]; omega) (by dsimp only [zrx, zr]; omega)) dL_law_2589 rfl ?_
  refine z_istore (pc' := 2594) C _ dL_law_2592 rfl rfl rfl ?_
  refine z_aload_n (pc' := 2595) C 4 dL_law_2594 rfl rfl rfl ?_
  refine z_callV (pc' := 2598) (st := []) (h' := gW w h0 σ' ρ' u) C (d_X9_thrown hN (v := md_thrown ρ') rfl) zy_X9_thrown zw_1236 zw_1237 zw_1238 (ci := 9) rfl (gW_c (k := 0) (by omega) rfl) rfl rfl rfl rfl (room_ok hk hn (by dsimp only [zrx, zr]; omega) (by dsimp only [zrx, zr]; omega)) dL_law_2595 rfl ?_
  refine z_iload (pc' := 2600) C 1 dL_law_2598 rfl rfl ?_
  refine z_icmp_eq (pc' := 2603) C 2605 (if_pos ht : (if _ = _ then some () else (none : Option Unit)) = some ()) dL_law_2600 rfl rfl (fun _ _ => ?_) (fun q _ => absurd ht q)
  refine z_iload (pc' := 2607) C 1 dL_law_2605 rfl rfl ?_
  refine z_if_ne (pc' := 2610) C 2622 (if_neg (by decide) : (if (1 : Int32) = 0 then (none : Option Unit) else some ()) = some ()) dL_law_2607 rfl rfl (fun _ _ => ?_) (fun q _ => absurd q (by decide))
  refine z_goto C 2707 dL_law_2622 rfl ?_
  refine z_pick (lv' := lw_lv w b i) [2, 3, 4, 5, 6] rfl ?_
  exact kk _ _ _ (by dsimp only [zrx, zr]; omega) (by dsimp only [zrx, zr]; omega)
theorem lc_fileLien_x2 (hN : 396 ≤ N) (hC : lw_C X w b L xs) (hs : lw_sc L xs i q) (hk : k + 12 ≤ 601024) (hn : n + 1000 ≤ 7293033) {b9 : Int32} (hf : f_X8_fileLien σ (q 1) = some (.inl ("java/lang/IllegalStateException", σ'))) (hg : g_X9_fileLien ρ (q 1) = some (b9, ρ')) (ht : md_thrown ρ' = 2) (kk : lw_N X w Q b i N h0 k n σ' ρ') : zZ X w Q k n false N (gW w h0 σ ρ u) 2569 (lw_lv w b i) [] := by
  obtain ⟨C, hX, hb, hw⟩ := hC
  refine z_aload_n (pc' := 2570) C 3 dL_law_2569 rfl rfl rfl ?_
  refine z_aload_n (pc' := 2571) C 4 dL_law_2570 rfl rfl rfl ?_
  refine z_iload (pc' := 2573) C 0 dL_law_2571 rfl rfl ?_
  refine z_iconst (pc' := 2574) C dL_law_2573 zk_iconst_1 rfl ?_
  refine z_iadd (pc' := 2575) C dL_law_2574 rfl ?_
  refine z_sld (pc' := 2576) C hX hb hw (v := q 1) (hs 1 (by decide)) dL_law_2575 rfl ?_
  refine z_aload_n (pc' := 2577) C 1 dL_law_2576 rfl rfl rfl ?_
  refine z_callSW (pc' := 2580) (m := 3) (st := []) (h' := gW w h0 σ' ρ u) C (c_L_fileLien_2 (a := 0) (c0 := 395) (N := N) (by omega) (by omega) (zc_w (a := 389) (o := 6) (by omega) rfl) hf) zw_1157 zw_0 (by decide +kernel) zw_1155 zw_1156 rfl rfl rfl rfl (room_ok hk hn (by dsimp only [zrx, zr]; omega) (by dsimp only [zrx, zr]; omega)) dL_law_2577 rfl ?_
  refine z_istore (pc' := 2582) C _ dL_law_2580 rfl rfl rfl ?_
  refine z_aload_n (pc' := 2583) C 3 dL_law_2582 rfl rfl rfl ?_
  refine z_aload_n (pc' := 2584) C 5 dL_law_2583 rfl rfl rfl ?_
  refine z_iload (pc' := 2586) C 1 dL_law_2584 rfl rfl ?_
  refine z_iconst (pc' := 2587) C dL_law_2586 zk_iconst_1 rfl ?_
  refine z_iadd (pc' := 2588) C dL_law_2587 rfl ?_
  refine z_sld (pc' := 2589) C hX hb hw (v := q 1) (hs 1 (by decide)) dL_law_2588 rfl ?_
  refine z_callV (pc' := 2592) (st := []) (h' := gW w h0 σ' ρ' u) C (d_X9_fileLien hN  hg) zy_X9_fileLien zw_1694 zw_1695 zw_1696 (ci := 9) rfl (gW_c (k := 0) (by omega) rfl) rfl rfl rfl rfl (room_ok hk hn (by dsimp only [zrx, zr]; omega) (by dsimp only [zrx, zr]; omega)) dL_law_2589 rfl ?_
  refine z_istore (pc' := 2594) C _ dL_law_2592 rfl rfl rfl ?_
  refine z_aload_n (pc' := 2595) C 4 dL_law_2594 rfl rfl rfl ?_
  refine z_callV (pc' := 2598) (st := []) (h' := gW w h0 σ' ρ' u) C (d_X9_thrown hN (v := md_thrown ρ') rfl) zy_X9_thrown zw_1236 zw_1237 zw_1238 (ci := 9) rfl (gW_c (k := 0) (by omega) rfl) rfl rfl rfl rfl (room_ok hk hn (by dsimp only [zrx, zr]; omega) (by dsimp only [zrx, zr]; omega)) dL_law_2595 rfl ?_
  refine z_iload (pc' := 2600) C 1 dL_law_2598 rfl rfl ?_
  refine z_icmp_eq (pc' := 2603) C 2605 (if_pos ht : (if _ = _ then some () else (none : Option Unit)) = some ()) dL_law_2600 rfl rfl (fun _ _ => ?_) (fun q _ => absurd ht q)
  refine z_iload (pc' := 2607) C 1 dL_law_2605 rfl rfl ?_
  refine z_if_ne (pc' := 2610) C 2622 (if_neg (by decide) : (if (2 : Int32) = 0 then (none : Option Unit) else some ()) = some ()) dL_law_2607 rfl rfl (fun _ _ => ?_) (fun q _ => absurd q (by decide))
  refine z_goto C 2707 dL_law_2622 rfl ?_
  refine z_pick (lv' := lw_lv w b i) [2, 3, 4, 5, 6] rfl ?_
  exact kk _ _ _ (by dsimp only [zrx, zr]; omega) (by dsimp only [zrx, zr]; omega)
theorem lc_withdrawLien (hN : 396 ≤ N) (hC : lw_C X w b L xs) (hs : lw_sc L xs i q) (hk : k + 12 ≤ 601024) (hn : n + 1000 ≤ 7293033) {v : Int64} {b9 : Int64} (hf : f_X8_withdrawLien σ (q 1) = some (.inr (v, σ'))) (hg : g_X9_withdrawLien ρ (q 1) = some (b9, ρ')) (ht : md_thrown ρ' = 0) (hv : v = b9) (kk : lw_N X w Q b i N h0 k n σ' ρ') : zZ X w Q k n false N (gW w h0 σ ρ u) 2625 (lw_lv w b i) [] := by
  obtain ⟨C, hX, hb, hw⟩ := hC
  refine z_aload_n (pc' := 2626) C 3 dL_law_2625 rfl rfl rfl ?_
  refine z_aload_n (pc' := 2627) C 4 dL_law_2626 rfl rfl rfl ?_
  refine z_iload (pc' := 2629) C 0 dL_law_2627 rfl rfl ?_
  refine z_iconst (pc' := 2630) C dL_law_2629 zk_iconst_1 rfl ?_
  refine z_iadd (pc' := 2631) C dL_law_2630 rfl ?_
  refine z_sld (pc' := 2632) C hX hb hw (v := q 1) (hs 1 (by decide)) dL_law_2631 rfl ?_
  refine z_aload_n (pc' := 2633) C 1 dL_law_2632 rfl rfl rfl ?_
  refine z_callSW (pc' := 2636) (m := 3) (st := []) (h' := gW w h0 σ' ρ (vp_updL u 0 (v))) C (zMw_eq gW_o (c_L_withdrawLien (a := 0) (c0 := 395) (N := N) (by omega) (by omega) (zc_w (a := 389) (o := 6) (by omega) rfl) hf)) zw_1172 zw_0 (by decide +kernel) zw_1170 zw_1171 rfl rfl rfl rfl (room_ok hk hn (by dsimp only [zrx, zr]; omega) (by dsimp only [zrx, zr]; omega)) dL_law_2633 rfl ?_
  refine z_istore (pc' := 2638) C _ dL_law_2636 rfl rfl rfl ?_
  refine z_aload_n (pc' := 2639) C 3 dL_law_2638 rfl rfl rfl ?_
  refine z_aload_n (pc' := 2640) C 5 dL_law_2639 rfl rfl rfl ?_
  refine z_iload (pc' := 2642) C 1 dL_law_2640 rfl rfl ?_
  refine z_iconst (pc' := 2643) C dL_law_2642 zk_iconst_1 rfl ?_
  refine z_iadd (pc' := 2644) C dL_law_2643 rfl ?_
  refine z_sld (pc' := 2645) C hX hb hw (v := q 1) (hs 1 (by decide)) dL_law_2644 rfl ?_
  refine z_callV (pc' := 2648) (st := []) (h' := gW w h0 σ' ρ' (vp_updL u 0 (v))) C (d_X9_withdrawLien hN  hg) zy_X9_withdrawLien zw_1703 zw_1704 zw_1705 (ci := 9) rfl (gW_c (k := 0) (by omega) rfl) rfl rfl rfl rfl (room_ok hk hn (by dsimp only [zrx, zr]; omega) (by dsimp only [zrx, zr]; omega)) dL_law_2645 rfl ?_
  refine z_lstore (pc' := 2650) C _ dL_law_2648 rfl rfl rfl ?_
  refine z_aload_n (pc' := 2651) C 4 dL_law_2650 rfl rfl rfl ?_
  refine z_callV (pc' := 2654) (st := []) (h' := gW w h0 σ' ρ' (vp_updL u 0 (v))) C (d_X9_thrown hN (v := md_thrown ρ') rfl) zy_X9_thrown zw_1236 zw_1237 zw_1238 (ci := 9) rfl (gW_c (k := 0) (by omega) rfl) rfl rfl rfl rfl (room_ok hk hn (by dsimp only [zrx, zr]; omega) (by dsimp only [zrx, zr]; omega)) dL_law_2651 rfl ?_
  refine z_iload (pc' := 2656) C 1 dL_law_2654 rfl rfl ?_
  refine z_icmp_eq (pc' := 2659) C 2661 (if_pos ht : (if _ = _ then some () else (none : Option Unit)) = some ()) dL_law_2656 rfl rfl (fun _ _ => ?_) (fun q _ => absurd ht q)
  refine z_iload (pc' := 2663) C 1 dL_law_2661 rfl rfl ?_
  refine z_if_ne (pc' := 2666) C 2677 (if_pos rfl : (if (0 : Int32) = 0 then some () else (none : Option Unit)) = some ()) dL_law_2663 rfl rfl (fun q _ => absurd rfl q) (fun _ _ => ?_)
  refine z_aload_n (pc' := 2667) C 3 dL_law_2666 rfl rfl rfl ?_
  refine z_iconst (pc' := 2668) C dL_law_2667 zk_iconst_0 rfl ?_
  refine z_lald (pc' := 2669) C (K := fun v => some v) rfl (gW_c (k := 6) (by omega) rfl) dL_law_2668 rfl (fun v0 hv0 => ?_)
  cases hv0
  refine z_lload (pc' := 2671) C 0 dL_law_2669 rfl rfl ?_
  refine z_lcmp_eq (pc' := 2675) (pc1 := 2672) C 2677 (if_pos hv : (if _ = _ then some () else (none : Option Unit)) = some ()) dL_law_2671 rfl dL_law_2672 rfl rfl (fun _ _ => ?_) (fun q _ => absurd hv q)
  refine z_goto C 2707 dL_law_2677 rfl ?_
  refine z_pick (lv' := lw_lv w b i) [2, 3, 4, 5, 6] rfl ?_
  exact kk _ _ _ (by dsimp only [zrx, zr]; omega) (by dsimp only [zrx, zr]; omega)
theorem lc_withdrawLien_x1 (hN : 396 ≤ N) (hC : lw_C X w b L xs) (hs : lw_sc L xs i q) (hk : k + 12 ≤ 601024) (hn : n + 1000 ≤ 7293033) {b9 : Int64} (hf : f_X8_withdrawLien σ (q 1) = some (.inl ("java/lang/IndexOutOfBoundsException", σ'))) (hg : g_X9_withdrawLien ρ (q 1) = some (b9, ρ')) (ht : md_thrown ρ' = 1) (kk : lw_N X w Q b i N h0 k n σ' ρ') : zZ X w Q k n false N (gW w h0 σ ρ u) 2625 (lw_lv w b i) [] := by
  obtain ⟨C, hX, hb, hw⟩ := hC
  refine z_aload_n (pc' := 2626) C 3 dL_law_2625 rfl rfl rfl ?_
  refine z_aload_n (pc' := 2627) C 4 dL_law_2626 rfl rfl rfl ?_
  refine z_iload (pc' := 2629) C 0 dL_law_2627 rfl rfl ?_
  refine z_iconst (pc' := 2630) C dL_law_2629 zk_iconst_1 rfl ?_
  refine z_iadd (pc' := 2631) C dL_law_2630 rfl ?_
  refine z_sld (pc' := 2632) C hX hb hw (v := q 1) (hs 1 (by decide)) dL_law_2631 rfl ?_
  refine z_aload_n (pc' := 2633) C 1 dL_law_2632 rfl rfl rfl ?_
  refine z_callSW (pc' := 2636) (m := 3) (st := []) (h' := gW w h0 σ' ρ u) C (c_L_withdrawLien_1 (a := 0) (c0 := 395) (N := N) (by omega) (by omega) (zc_w (a := 389) (o := 6) (by omega) rfl) hf) zw_1172 zw_0 (by decide +kernel) zw_1170 zw_1171 rfl rfl rfl rfl (room_ok hk hn (by dsimp only [zrx, zr]; omega) (by dsimp only [zrx, zr]; omega)) dL_law_2633 rfl ?_
  refine z_istore (pc' := 2638) C _ dL_law_2636 rfl rfl rfl ?_
  refine z_aload_n (pc' := 2639) C 3 dL_law_2638 rfl rfl rfl ?_
  refine z_aload_n (pc' := 2640) C 5 dL_law_2639 rfl rfl rfl ?_
  refine z_iload (pc' := 2642) C 1 dL_law_2640 rfl rfl ?_
  refine z_iconst (pc' := 2643) C dL_law_2642 zk_iconst_1 rfl ?_
  refine z_iadd (pc' := 2644) C dL_law_2643 rfl ?_
  refine z_sld (pc' := 2645) C hX hb hw (v := q 1) (hs 1 (by decide)) dL_law_2644 rfl ?_
  refine z_callV (pc' := 2648) (st := []) (h' := gW w h0 σ' ρ' u) C (d_X9_withdrawLien hN  hg) zy_X9_withdrawLien zw_1703 zw_1704 zw_1705 (ci := 9) rfl (gW_c (k := 0) (by omega) rfl) rfl rfl rfl rfl (room_ok hk hn (by dsimp only [zrx, zr]; omega) (by dsimp only [zrx, zr]; omega)) dL_law_2645 rfl ?_
  refine z_lstore (pc' := 2650) C _ dL_law_2648 rfl rfl rfl ?_
  refine z_aload_n (pc' := 2651) C 4 dL_law_2650 rfl rfl rfl ?_
  refine z_callV (pc' := 2654) (st := []) (h' := gW w h0 σ' ρ' u) C (d_X9_thrown hN (v := md_thrown ρ') rfl) zy_X9_thrown zw_1236 zw_1237 zw_1238 (ci := 9) rfl (gW_c (k := 0) (by omega) rfl) rfl rfl rfl rfl (room_ok hk hn (by dsimp only [zrx, zr]; omega) (by dsimp only [zrx, zr]; omega)) dL_law_2651 rfl ?_
  refine z_iload (pc' := 2656) C 1 dL_law_2654 rfl rfl ?_
  refine z_icmp_eq (pc' := 2659) C 2661 (if_pos ht : (if _ = _ then some () else (none : Option Unit)) = some ()) dL_law_2656 rfl rfl (fun _ _ => ?_) (fun q _ => absurd ht q)
  refine z_iload (pc' := 2663) C 1 dL_law_2661 rfl rfl ?_
  refine z_if_ne (pc' := 2666) C 2677 (if_neg (by decide) : (if (1 : Int32) = 0 then (none : Option Unit) else some ()) = some ()) dL_law_2663 rfl rfl (fun _ _ => ?_) (fun q _ => absurd q (by decide))
  refine z_goto C 2707 dL_law_2677 rfl ?_
  refine z_pick (lv' := lw_lv w b i) [2, 3, 4, 5, 6] rfl ?_
  exact kk _ _ _ (by dsimp only [zrx, zr]; omega) (by dsimp only [zrx, zr]; omega)
theorem lc_withdrawLien_x2 (hN : 396 ≤ N) (hC : lw_C X w b L xs) (hs : lw_sc L xs i q) (hk : k + 12 ≤ 601024) (hn : n + 1000 ≤ 7293033) {b9 : Int64} (hf : f_X8_withdrawLien σ (q 1) = some (.inl ("java/lang/IllegalStateException", σ'))) (hg : g_X9_withdrawLien ρ (q 1) = some (b9, ρ')) (ht : md_thrown ρ' = 2) (kk : lw_N X w Q b i N h0 k n σ' ρ') : zZ X w Q k n false N (gW w h0 σ ρ u) 2625 (lw_lv w b i) [] := by
  obtain ⟨C, hX, hb, hw⟩ := hC
  refine z_aload_n (pc' := 2626) C 3 dL_law_2625 rfl rfl rfl ?_
  refine z_aload_n (pc' := 2627) C 4 dL_law_2626 rfl rfl rfl ?_
  refine z_iload (pc' := 2629) C 0 dL_law_2627 rfl rfl ?_
  refine z_iconst (pc' := 2630) C dL_law_2629 zk_iconst_1 rfl ?_
  refine z_iadd (pc' := 2631) C dL_law_2630 rfl ?_
  refine z_sld (pc' := 2632) C hX hb hw (v := q 1) (hs 1 (by decide)) dL_law_2631 rfl ?_
  refine z_aload_n (pc' := 2633) C 1 dL_law_2632 rfl rfl rfl ?_
  refine z_callSW (pc' := 2636) (m := 3) (st := []) (h' := gW w h0 σ' ρ u) C (c_L_withdrawLien_2 (a := 0) (c0 := 395) (N := N) (by omega) (by omega) (zc_w (a := 389) (o := 6) (by omega) rfl) hf) zw_1172 zw_0 (by decide +kernel) zw_1170 zw_1171 rfl rfl rfl rfl (room_ok hk hn (by dsimp only [zrx, zr]; omega) (by dsimp only [zrx, zr]; omega)) dL_law_2633 rfl ?_
  refine z_istore (pc' := 2638) C _ dL_law_2636 rfl rfl rfl ?_
  refine z_aload_n (pc' := 2639) C 3 dL_law_2638 rfl rfl rfl ?_
  refine z_aload_n (pc' := 2640) C 5 dL_law_2639 rfl rfl rfl ?_
  refine z_iload (pc' := 2642) C 1 dL_law_2640 rfl rfl ?_
  refine z_iconst (pc' := 2643) C dL_law_2642 zk_iconst_1 rfl ?_
  refine z_iadd (pc' := 2644) C dL_law_2643 rfl ?_
  refine z_sld (pc' := 2645) C hX hb hw (v := q 1) (hs 1 (by decide)) dL_law_2644 rfl ?_
  refine z_callV (pc' := 2648) (st := []) (h' := gW w h0 σ' ρ' u) C (d_X9_withdrawLien hN  hg) zy_X9_withdrawLien zw_1703 zw_1704 zw_1705 (ci := 9) rfl (gW_c (k := 0) (by omega) rfl) rfl rfl rfl rfl (room_ok hk hn (by dsimp only [zrx, zr]; omega) (by dsimp only [zrx, zr]; omega)) dL_law_2645 rfl ?_
  refine z_lstore (pc' := 2650) C _ dL_law_2648 rfl rfl rfl ?_
  refine z_aload_n (pc' := 2651) C 4 dL_law_2650 rfl rfl rfl ?_
  refine z_callV (pc' := 2654) (st := []) (h' := gW w h0 σ' ρ' u) C (d_X9_thrown hN (v := md_thrown ρ') rfl) zy_X9_thrown zw_1236 zw_1237 zw_1238 (ci := 9) rfl (gW_c (k := 0) (by omega) rfl) rfl rfl rfl rfl (room_ok hk hn (by dsimp only [zrx, zr]; omega) (by dsimp only [zrx, zr]; omega)) dL_law_2651 rfl ?_
  refine z_iload (pc' := 2656) C 1 dL_law_2654 rfl rfl ?_
  refine z_icmp_eq (pc' := 2659) C 2661 (if_pos ht : (if _ = _ then some () else (none : Option Unit)) = some ()) dL_law_2656 rfl rfl (fun _ _ => ?_) (fun q _ => absurd ht q)
  refine z_iload (pc' := 2663) C 1 dL_law_2661 rfl rfl ?_
  refine z_if_ne (pc' := 2666) C 2677 (if_neg (by decide) : (if (2 : Int32) = 0 then (none : Option Unit) else some ()) = some ()) dL_law_2663 rfl rfl (fun _ _ => ?_) (fun q _ => absurd q (by decide))
  refine z_goto C 2707 dL_law_2677 rfl ?_
  refine z_pick (lv' := lw_lv w b i) [2, 3, 4, 5, 6] rfl ?_
  exact kk _ _ _ (by dsimp only [zrx, zr]; omega) (by dsimp only [zrx, zr]; omega)
theorem lc_undo (hN : 396 ≤ N) (hC : lw_C X w b L xs) (hs : lw_sc L xs i q) (hk : k + 12 ≤ 601024) (hn : n + 1000 ≤ 7293033) {v b9 : Int32} (hf : f_X8_undo σ  = some (v, σ')) (hg : g_X9_undo ρ  = some (b9, ρ')) (hv : v = b9) (kk : lw_N X w Q b i N h0 k n σ' ρ') : zZ X w Q k n false N (gW w h0 σ ρ u) 2680 (lw_lv w b i) [] := by
  obtain ⟨C, hX, hb, hw⟩ := hC
  refine z_aload_n (pc' := 2681) C 3 dL_law_2680 rfl rfl rfl ?_
  refine z_callV (pc' := 2684) (st := []) (h' := gW w h0 σ' ρ u) C (c_X8_undo (a := 0) (N := N) (h := zu h0 389 (mL w ρ u)) (σ := σ) (r := (v, σ')) (by omega) hf) zy_X8_undo zw_377 zw_378 zw_379 (ci := 8) rfl (lg_0 (a := 0) (by omega)) rfl rfl rfl rfl (room_ok hk hn (by dsimp only [zrx, zr]; omega) (by dsimp only [zrx, zr]; omega)) dL_law_2681 rfl ?_
  refine z_aload_n (pc' := 2685) C 2 dL_law_2684 rfl rfl rfl ?_
  refine z_callV (pc' := 2688) (st := [.int v]) (h' := gW w h0 σ' ρ' u) C (d_X9_undo hN  hg) zy_X9_undo zw_1707 zw_1708 zw_1709 (ci := 9) rfl (gW_c (k := 0) (by omega) rfl) rfl rfl rfl rfl (room_ok hk hn (by dsimp only [zrx, zr]; omega) (by dsimp only [zrx, zr]; omega)) dL_law_2685 rfl ?_
  refine z_icmp_eq (pc' := 2691) C 2707 (if_pos hv : (if _ = _ then some () else (none : Option Unit)) = some ()) dL_law_2688 rfl rfl (fun _ _ => ?_) (fun q _ => absurd hv q)
  refine z_pick (lv' := lw_lv w b i) [0, 1, 2, 3, 4] rfl ?_
  exact kk _ _ _ (by dsimp only [zrx, zr]; omega) (by dsimp only [zrx, zr]; omega)
theorem lc_checksum (hN : 396 ≤ N) (hC : lw_C X w b L xs) (hs : lw_sc L xs i q) (hk : k + 12 ≤ 601024) (hn : n + 1000 ≤ 7293033) (hG : PgW w N 0 (zu h0 389 (mL w ρ u)) σ) {v b9 : Int64} (hf : f_X8_checksum σ  = some (v, σ')) (hg : g_X9_checksum ρ  = some (b9, ρ')) (hv : v = b9) (kk : lw_N X w Q b i N h0 k n σ' ρ') : zZ X w Q k n false N (gW w h0 σ ρ u) 2693 (lw_lv w b i) [] := by
  obtain ⟨C, hX, hb, hw⟩ := hC
  refine z_aload_n (pc' := 2694) C 3 dL_law_2693 rfl rfl rfl ?_
  refine z_callV (pc' := 2697) (st := []) (h' := gW w h0 σ' ρ u) C (c_X8_checksum (a := 0) (N := N) (h := zu h0 389 (mL w ρ u)) (σ := σ) (r := (v, σ')) (by omega) hG hf) zy_X8_checksum zw_381 zw_382 zw_383 (ci := 8) rfl (lg_0 (a := 0) (by omega)) rfl rfl rfl rfl (room_ok hk hn (by dsimp only [zrx, zr]; omega) (by dsimp only [zrx, zr]; omega)) dL_law_2694 rfl ?_
  refine z_aload_n (pc' := 2698) C 2 dL_law_2697 rfl rfl rfl ?_
  refine z_callV (pc' := 2701) (st := [.long v]) (h' := gW w h0 σ' ρ' u) C (d_X9_checksum hN  hg) zy_X9_checksum zw_1711 zw_1712 zw_1713 (ci := 9) rfl (gW_c (k := 0) (by omega) rfl) rfl rfl rfl rfl (room_ok hk hn (by dsimp only [zrx, zr]; omega) (by dsimp only [zrx, zr]; omega)) dL_law_2698 rfl ?_
  refine z_lcmp_eq (pc' := 2705) (pc1 := 2702) C 2707 (if_pos hv : (if _ = _ then some () else (none : Option Unit)) = some ()) dL_law_2701 rfl dL_law_2702 rfl rfl (fun _ _ => ?_) (fun q _ => absurd hv q)
  refine z_pick (lv' := lw_lv w b i) [0, 1, 2, 3, 4] rfl ?_
  exact kk _ _ _ (by dsimp only [zrx, zr]; omega) (by dsimp only [zrx, zr]; omega)
end LAW
