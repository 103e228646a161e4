/-! THE LAW'S LOOP -/
theorem k_b31 : (Int8.ofInt 31).toInt32 = 31 := by decide
theorem k_b6 : (Int8.ofInt 6).toInt32 = 6 := by decide
theorem k_i6 : Int32.ofInt 6 = 6 := by decide
set_option maxHeartbeats 8000000 in
theorem Lw_law_L28_g {κ : tv_Kt} {sb L : Nat} {xs : Nat → Int32} (hC : tv_Cx κ "TiedViewsLaw" code 4 106) (hR : tl_R κ sb L xs) (F : Nat) : ∀ (n : Nat) (l3 : Int32) (M : tv_M), tv_G κ 4 (tl_Q κ sb) 28 [some (.ref sb), some (.ref (κ.b + 0)), some (.ref (κ.b + 249)), some (.int l3)] [] M (Lw_law_L28 F L xs n l3 M) := by
  intro n
  induction n with
  | zero => intro _ _; exact g_none
  | succ nn ih =>
    intro l3 M
    rw [Lw_law_L28]
    refine g_iload_n hC d_Lw_law_28 rfl ?_
    refine g_aload_n hC d_Lw_law_29 rfl ?_
    refine g_xlen hC hR d_Lw_law_30 ?_
    refine g_bipush hC d_Lw_law_31 k_b6 ?_
    refine g_isub hC d_Lw_law_33 ?_
    refine g_icmp_gt (tgt := 1109) hC d_Lw_law_34 (by decide) (fun _ => ?_) (fun _ => ?_)
    · refine g_iconst hC d_Lw_law_1109 k_i1 ?_
      exact g_xret hC hR d_Lw_law_1110
    · refine g_aload_n hC d_Lw_law_37 rfl ?_
      refine g_iload_n hC d_Lw_law_38 rfl ?_
      refine g_xald hC hR d_Lw_law_39 (fun x1 => ?_)
      refine g_bipush hC d_Lw_law_40 k_b31 ?_
      refine g_iand hC d_Lw_law_42 ?_
      refine g_ite (fun e12 => ?_) (fun e12 => ?_)
      · refine g_tabIn (tgt := 180) hC d_Lw_law_43 e12 (by decide) (by decide) rfl (by decide) ?_
        refine g_aload_n hC d_Lw_law_180 rfl ?_
        refine g_aload_n hC d_Lw_law_181 rfl ?_
        refine g_iload_n hC d_Lw_law_182 rfl ?_
        refine g_iconst hC d_Lw_law_183 k_i1 ?_
        refine g_iadd hC d_Lw_law_184 ?_
        refine g_xald hC hR d_Lw_law_185 (fun x2 => ?_)
        refine g_aload_n hC d_Lw_law_186 rfl ?_
        refine g_iload_n hC d_Lw_law_187 rfl ?_
        refine g_iconst hC d_Lw_law_188 k_i2 ?_
        refine g_iadd hC d_Lw_law_189 ?_
        refine g_xald hC hR d_Lw_law_190 (fun x3 => ?_)
        refine g_aload_n hC d_Lw_law_191 rfl ?_
        refine g_iload_n hC d_Lw_law_192 rfl ?_
        refine g_iconst hC d_Lw_law_193 k_i3 ?_
        refine g_iadd hC d_Lw_law_194 ?_
        refine g_xald hC hR d_Lw_law_195 (fun x4 => ?_)
        refine gv_callVi hC [.int x2, .int x3, .int x4] cw_Lw_21 (Xx_sheet_c F x2 x3 x4 M) lc_0 rfl rfl rfl rfl rfl rfl rfl d_Lw_law_196 (fun r5 M6 => ?_)
        refine g_aload_n hC d_Lw_law_199 rfl ?_
        refine g_aload_n hC d_Lw_law_200 rfl ?_
        refine g_iload_n hC d_Lw_law_201 rfl ?_
        refine g_iconst hC d_Lw_law_202 k_i1 ?_
        refine g_iadd hC d_Lw_law_203 ?_
        refine g_xald hC hR d_Lw_law_204 (fun x7 => ?_)
        refine g_aload_n hC d_Lw_law_205 rfl ?_
        refine g_iload_n hC d_Lw_law_206 rfl ?_
        refine g_iconst hC d_Lw_law_207 k_i2 ?_
        refine g_iadd hC d_Lw_law_208 ?_
        refine g_xald hC hR d_Lw_law_209 (fun x8 => ?_)
        refine g_aload_n hC d_Lw_law_210 rfl ?_
        refine g_iload_n hC d_Lw_law_211 rfl ?_
        refine g_iconst hC d_Lw_law_212 k_i3 ?_
        refine g_iadd hC d_Lw_law_213 ?_
        refine g_xald hC hR d_Lw_law_214 (fun x9 => ?_)
        refine gv_callVi hC [.int x7, .int x8, .int x9] cw_Lw_25 (Md_sheet_c F x7 x8 x9 M6) lc_249 rfl rfl rfl rfl rfl rfl rfl d_Lw_law_215 (fun r10 M11 => ?_)
        refine g_icmp_eq (tgt := 1103) hC d_Lw_law_218 (by decide) (fun _ => ?_) (fun _ => ?_)
        · refine g_iinc (ls' := [some (.ref sb), some (.ref (κ.b + 0)), some (.ref (κ.b + 249)), some (.int (l3 + 6))]) hC d_Lw_law_1103 rfl k_i6 rfl rfl ?_
          refine g_goto (tgt := 28) hC d_Lw_law_1106 (by decide) ?_
          exact ih (l3 + 6) M11
        · refine g_iconst hC d_Lw_law_221 k_i0 ?_
          exact g_none
      · refine g_ite (fun e23 => ?_) (fun e23 => ?_)
        · refine g_tabIn (tgt := 223) hC d_Lw_law_43 e23 (by decide) (by decide) rfl (by decide) ?_
          refine g_aload_n hC d_Lw_law_223 rfl ?_
          refine g_aload_n hC d_Lw_law_224 rfl ?_
          refine g_iload_n hC d_Lw_law_225 rfl ?_
          refine g_iconst hC d_Lw_law_226 k_i1 ?_
          refine g_iadd hC d_Lw_law_227 ?_
          refine g_xald hC hR d_Lw_law_228 (fun x13 => ?_)
          refine g_aload_n hC d_Lw_law_229 rfl ?_
          refine g_iload_n hC d_Lw_law_230 rfl ?_
          refine g_iconst hC d_Lw_law_231 k_i2 ?_
          refine g_iadd hC d_Lw_law_232 ?_
          refine g_xald hC hR d_Lw_law_233 (fun x14 => ?_)
          refine g_aload_n hC d_Lw_law_234 rfl ?_
          refine g_iload_n hC d_Lw_law_235 rfl ?_
          refine g_iconst hC d_Lw_law_236 k_i3 ?_
          refine g_iadd hC d_Lw_law_237 ?_
          refine g_xald hC hR d_Lw_law_238 (fun x15 => ?_)
          refine gv_callVi hC [.int x13, .int x14, .int x15] cw_Lw_26 (Xx_set_c F x13 x14 x15 M) lc_0 rfl rfl rfl rfl rfl rfl rfl d_Lw_law_239 (fun r16 M17 => ?_)
          refine g_aload_n hC d_Lw_law_242 rfl ?_
          refine g_aload_n hC d_Lw_law_243 rfl ?_
          refine g_iload_n hC d_Lw_law_244 rfl ?_
          refine g_iconst hC d_Lw_law_245 k_i1 ?_
          refine g_iadd hC d_Lw_law_246 ?_
          refine g_xald hC hR d_Lw_law_247 (fun x18 => ?_)
          refine g_aload_n hC d_Lw_law_248 rfl ?_
          refine g_iload_n hC d_Lw_law_249 rfl ?_
          refine g_iconst hC d_Lw_law_250 k_i2 ?_
          refine g_iadd hC d_Lw_law_251 ?_
          refine g_xald hC hR d_Lw_law_252 (fun x19 => ?_)
          refine g_aload_n hC d_Lw_law_253 rfl ?_
          refine g_iload_n hC d_Lw_law_254 rfl ?_
          refine g_iconst hC d_Lw_law_255 k_i3 ?_
          refine g_iadd hC d_Lw_law_256 ?_
          refine g_xald hC hR d_Lw_law_257 (fun x20 => ?_)
          refine gv_callVi hC [.int x18, .int x19, .int x20] cw_Lw_29 (Md_set_c F x18 x19 x20 M17) lc_249 rfl rfl rfl rfl rfl rfl rfl d_Lw_law_258 (fun r21 M22 => ?_)
          refine g_icmp_eq (tgt := 1103) hC d_Lw_law_261 (by decide) (fun _ => ?_) (fun _ => ?_)
          · refine g_iinc (ls' := [some (.ref sb), some (.ref (κ.b + 0)), some (.ref (κ.b + 249)), some (.int (l3 + 6))]) hC d_Lw_law_1103 rfl k_i6 rfl rfl ?_
            refine g_goto (tgt := 28) hC d_Lw_law_1106 (by decide) ?_
            exact ih (l3 + 6) M22
          · refine g_iconst hC d_Lw_law_264 k_i0 ?_
            exact g_none
        · refine g_ite (fun e38 => ?_) (fun e38 => ?_)
          · refine g_tabIn (tgt := 266) hC d_Lw_law_43 e38 (by decide) (by decide) rfl (by decide) ?_
            refine g_aload_n hC d_Lw_law_266 rfl ?_
            refine g_aload_n hC d_Lw_law_267 rfl ?_
            refine g_iload_n hC d_Lw_law_268 rfl ?_
            refine g_iconst hC d_Lw_law_269 k_i1 ?_
            refine g_iadd hC d_Lw_law_270 ?_
            refine g_xald hC hR d_Lw_law_271 (fun x24 => ?_)
            refine g_aload_n hC d_Lw_law_272 rfl ?_
            refine g_iload_n hC d_Lw_law_273 rfl ?_
            refine g_iconst hC d_Lw_law_274 k_i2 ?_
            refine g_iadd hC d_Lw_law_275 ?_
            refine g_xald hC hR d_Lw_law_276 (fun x25 => ?_)
            refine g_aload_n hC d_Lw_law_277 rfl ?_
            refine g_iload_n hC d_Lw_law_278 rfl ?_
            refine g_iconst hC d_Lw_law_279 k_i3 ?_
            refine g_iadd hC d_Lw_law_280 ?_
            refine g_xald hC hR d_Lw_law_281 (fun x26 => ?_)
            refine g_aload_n hC d_Lw_law_282 rfl ?_
            refine g_iload_n hC d_Lw_law_283 rfl ?_
            refine g_iconst hC d_Lw_law_284 k_i4 ?_
            refine g_iadd hC d_Lw_law_285 ?_
            refine g_xald hC hR d_Lw_law_286 (fun x27 => ?_)
            refine g_aload_n hC d_Lw_law_287 rfl ?_
            refine g_iload_n hC d_Lw_law_288 rfl ?_
            refine g_iconst hC d_Lw_law_289 k_i5 ?_
            refine g_iadd hC d_Lw_law_290 ?_
            refine g_xald hC hR d_Lw_law_291 (fun x28 => ?_)
            refine gv_callVi hC [.int x24, .int x25, .int x26, .int x27, .int x28] cw_Lw_30 (Xx_copy_c F x24 x25 x26 x27 x28 M) lc_0 rfl rfl rfl rfl rfl rfl rfl d_Lw_law_292 (fun r29 M30 => ?_)
            refine g_aload_n hC d_Lw_law_295 rfl ?_
            refine g_aload_n hC d_Lw_law_296 rfl ?_
            refine g_iload_n hC d_Lw_law_297 rfl ?_
            refine g_iconst hC d_Lw_law_298 k_i1 ?_
            refine g_iadd hC d_Lw_law_299 ?_
            refine g_xald hC hR d_Lw_law_300 (fun x31 => ?_)
            refine g_aload_n hC d_Lw_law_301 rfl ?_
            refine g_iload_n hC d_Lw_law_302 rfl ?_
            refine g_iconst hC d_Lw_law_303 k_i2 ?_
            refine g_iadd hC d_Lw_law_304 ?_
            refine g_xald hC hR d_Lw_law_305 (fun x32 => ?_)
            refine g_aload_n hC d_Lw_law_306 rfl ?_
            refine g_iload_n hC d_Lw_law_307 rfl ?_
            refine g_iconst hC d_Lw_law_308 k_i3 ?_
            refine g_iadd hC d_Lw_law_309 ?_
            refine g_xald hC hR d_Lw_law_310 (fun x33 => ?_)
            refine g_aload_n hC d_Lw_law_311 rfl ?_
            refine g_iload_n hC d_Lw_law_312 rfl ?_
            refine g_iconst hC d_Lw_law_313 k_i4 ?_
            refine g_iadd hC d_Lw_law_314 ?_
            refine g_xald hC hR d_Lw_law_315 (fun x34 => ?_)
            refine g_aload_n hC d_Lw_law_316 rfl ?_
            refine g_iload_n hC d_Lw_law_317 rfl ?_
            refine g_iconst hC d_Lw_law_318 k_i5 ?_
            refine g_iadd hC d_Lw_law_319 ?_
            refine g_xald hC hR d_Lw_law_320 (fun x35 => ?_)
            refine gv_callVi hC [.int x31, .int x32, .int x33, .int x34, .int x35] cw_Lw_34 (Md_copy_c F x31 x32 x33 x34 x35 M30) lc_249 rfl rfl rfl rfl rfl rfl rfl d_Lw_law_321 (fun r36 M37 => ?_)
            refine g_icmp_eq (tgt := 1103) hC d_Lw_law_324 (by decide) (fun _ => ?_) (fun _ => ?_)
            · refine g_iinc (ls' := [some (.ref sb), some (.ref (κ.b + 0)), some (.ref (κ.b + 249)), some (.int (l3 + 6))]) hC d_Lw_law_1103 rfl k_i6 rfl rfl ?_
              refine g_goto (tgt := 28) hC d_Lw_law_1106 (by decide) ?_
              exact ih (l3 + 6) M37
            · refine g_iconst hC d_Lw_law_327 k_i0 ?_
              exact g_none
          · refine g_ite (fun e45 => ?_) (fun e45 => ?_)
            · refine g_tabIn (tgt := 329) hC d_Lw_law_43 e45 (by decide) (by decide) rfl (by decide) ?_
              refine g_aload_n hC d_Lw_law_329 rfl ?_
              refine g_aload_n hC d_Lw_law_330 rfl ?_
              refine g_iload_n hC d_Lw_law_331 rfl ?_
              refine g_iconst hC d_Lw_law_332 k_i1 ?_
              refine g_iadd hC d_Lw_law_333 ?_
              refine g_xald hC hR d_Lw_law_334 (fun x39 => ?_)
              refine gv_callVi hC [.int x39] cw_Lw_35 (Xx_drop_c F x39 M) lc_0 rfl rfl rfl rfl rfl rfl rfl d_Lw_law_335 (fun r40 M41 => ?_)
              refine g_aload_n hC d_Lw_law_338 rfl ?_
              refine g_aload_n hC d_Lw_law_339 rfl ?_
              refine g_iload_n hC d_Lw_law_340 rfl ?_
              refine g_iconst hC d_Lw_law_341 k_i1 ?_
              refine g_iadd hC d_Lw_law_342 ?_
              refine g_xald hC hR d_Lw_law_343 (fun x42 => ?_)
              refine gv_callVi hC [.int x42] cw_Lw_39 (Md_drop_c F x42 M41) lc_249 rfl rfl rfl rfl rfl rfl rfl d_Lw_law_344 (fun r43 M44 => ?_)
              refine g_icmp_eq (tgt := 1103) hC d_Lw_law_347 (by decide) (fun _ => ?_) (fun _ => ?_)
              · refine g_iinc (ls' := [some (.ref sb), some (.ref (κ.b + 0)), some (.ref (κ.b + 249)), some (.int (l3 + 6))]) hC d_Lw_law_1103 rfl k_i6 rfl rfl ?_
                refine g_goto (tgt := 28) hC d_Lw_law_1106 (by decide) ?_
                exact ih (l3 + 6) M44
              · refine g_iconst hC d_Lw_law_350 k_i0 ?_
                exact g_none
            · refine g_ite (fun e56 => ?_) (fun e56 => ?_)
              · refine g_tabIn (tgt := 352) hC d_Lw_law_43 e56 (by decide) (by decide) rfl (by decide) ?_
                refine g_aload_n hC d_Lw_law_352 rfl ?_
                refine g_aload_n hC d_Lw_law_353 rfl ?_
                refine g_iload_n hC d_Lw_law_354 rfl ?_
                refine g_iconst hC d_Lw_law_355 k_i1 ?_
                refine g_iadd hC d_Lw_law_356 ?_
                refine g_xald hC hR d_Lw_law_357 (fun x46 => ?_)
                refine g_i2l hC d_Lw_law_358 ?_
                refine g_bipush hC d_Lw_law_359 k_b32 ?_
                refine g_lshl hC d_Lw_law_361 ?_
                refine g_aload_n hC d_Lw_law_362 rfl ?_
                refine g_iload_n hC d_Lw_law_363 rfl ?_
                refine g_iconst hC d_Lw_law_364 k_i2 ?_
                refine g_iadd hC d_Lw_law_365 ?_
                refine g_xald hC hR d_Lw_law_366 (fun x47 => ?_)
                refine g_i2l hC d_Lw_law_367 ?_
                refine g_ldc2 hC d_Lw_law_368 wl_Lw_40 ?_
                refine g_land hC d_Lw_law_371 ?_
                refine g_lor hC d_Lw_law_372 ?_
                refine g_aload_n hC d_Lw_law_373 rfl ?_
                refine g_iload_n hC d_Lw_law_374 rfl ?_
                refine g_iconst hC d_Lw_law_375 k_i3 ?_
                refine g_iadd hC d_Lw_law_376 ?_
                refine g_xald hC hR d_Lw_law_377 (fun x48 => ?_)
                refine gv_callVi hC [.long ((((x46 : Int32).toInt64) <<< ((32 : Int32).toInt64 &&& 63)) ||| (((x47 : Int32).toInt64) &&& 4294967295)), .int x48] cw_Lw_42 (Xx_feed_c F ((((x46 : Int32).toInt64) <<< ((32 : Int32).toInt64 &&& 63)) ||| (((x47 : Int32).toInt64) &&& 4294967295)) x48 M) lc_0 rfl rfl rfl rfl rfl rfl rfl d_Lw_law_378 (fun r49 M50 => ?_)
                refine g_aload_n hC d_Lw_law_381 rfl ?_
                refine g_aload_n hC d_Lw_law_382 rfl ?_
                refine g_iload_n hC d_Lw_law_383 rfl ?_
                refine g_iconst hC d_Lw_law_384 k_i1 ?_
                refine g_iadd hC d_Lw_law_385 ?_
                refine g_xald hC hR d_Lw_law_386 (fun x51 => ?_)
                refine g_i2l hC d_Lw_law_387 ?_
                refine g_bipush hC d_Lw_law_388 k_b32 ?_
                refine g_lshl hC d_Lw_law_390 ?_
                refine g_aload_n hC d_Lw_law_391 rfl ?_
                refine g_iload_n hC d_Lw_law_392 rfl ?_
                refine g_iconst hC d_Lw_law_393 k_i2 ?_
                refine g_iadd hC d_Lw_law_394 ?_
                refine g_xald hC hR d_Lw_law_395 (fun x52 => ?_)
                refine g_i2l hC d_Lw_law_396 ?_
                refine g_ldc2 hC d_Lw_law_397 wl_Lw_40 ?_
                refine g_land hC d_Lw_law_400 ?_
                refine g_lor hC d_Lw_law_401 ?_
                refine g_aload_n hC d_Lw_law_402 rfl ?_
                refine g_iload_n hC d_Lw_law_403 rfl ?_
                refine g_iconst hC d_Lw_law_404 k_i3 ?_
                refine g_iadd hC d_Lw_law_405 ?_
                refine g_xald hC hR d_Lw_law_406 (fun x53 => ?_)
                refine gv_callVi hC [.long ((((x51 : Int32).toInt64) <<< ((32 : Int32).toInt64 &&& 63)) ||| (((x52 : Int32).toInt64) &&& 4294967295)), .int x53] cw_Lw_46 (Md_feed_c F ((((x51 : Int32).toInt64) <<< ((32 : Int32).toInt64 &&& 63)) ||| (((x52 : Int32).toInt64) &&& 4294967295)) x53 M50) lc_249 rfl rfl rfl rfl rfl rfl rfl d_Lw_law_407 (fun r54 M55 => ?_)
                refine g_icmp_eq (tgt := 1103) hC d_Lw_law_410 (by decide) (fun _ => ?_) (fun _ => ?_)
                · refine g_iinc (ls' := [some (.ref sb), some (.ref (κ.b + 0)), some (.ref (κ.b + 249)), some (.int (l3 + 6))]) hC d_Lw_law_1103 rfl k_i6 rfl rfl ?_
                  refine g_goto (tgt := 28) hC d_Lw_law_1106 (by decide) ?_
                  exact ih (l3 + 6) M55
                · refine g_iconst hC d_Lw_law_413 k_i0 ?_
                  exact g_none
              · refine g_ite (fun e61 => ?_) (fun e61 => ?_)
                · refine g_tabIn (tgt := 415) hC d_Lw_law_43 e61 (by decide) (by decide) rfl (by decide) ?_
                  refine g_aload_n hC d_Lw_law_415 rfl ?_
                  refine gv_callVi hC [] cw_Lw_47 (Xx_read_c F M) lc_0 rfl rfl rfl rfl rfl rfl rfl d_Lw_law_416 (fun r57 M58 => ?_)
                  refine g_aload_n hC d_Lw_law_419 rfl ?_
                  refine gv_callVi hC [] cw_Lw_51 (Md_read_c F M58) lc_249 rfl rfl rfl rfl rfl rfl rfl d_Lw_law_420 (fun r59 M60 => ?_)
                  refine g_icmp_eq (tgt := 1103) hC d_Lw_law_423 (by decide) (fun _ => ?_) (fun _ => ?_)
                  · refine g_iinc (ls' := [some (.ref sb), some (.ref (κ.b + 0)), some (.ref (κ.b + 249)), some (.int (l3 + 6))]) hC d_Lw_law_1103 rfl k_i6 rfl rfl ?_
                    refine g_goto (tgt := 28) hC d_Lw_law_1106 (by decide) ?_
                    exact ih (l3 + 6) M60
                  · refine g_iconst hC d_Lw_law_426 k_i0 ?_
                    exact g_none
                · refine g_ite (fun e66 => ?_) (fun e66 => ?_)
                  · refine g_tabIn (tgt := 428) hC d_Lw_law_43 e66 (by decide) (by decide) rfl (by decide) ?_
                    refine g_aload_n hC d_Lw_law_428 rfl ?_
                    refine gv_callVi hC [] cw_Lw_52 (Xx_fault_c F M) lc_0 rfl rfl rfl rfl rfl rfl rfl d_Lw_law_429 (fun r62 M63 => ?_)
                    refine g_aload_n hC d_Lw_law_432 rfl ?_
                    refine gv_callVi hC [] cw_Lw_55 (Md_fault_c F M63) lc_249 rfl rfl rfl rfl rfl rfl rfl d_Lw_law_433 (fun r64 M65 => ?_)
                    refine g_icmp_eq (tgt := 1103) hC d_Lw_law_436 (by decide) (fun _ => ?_) (fun _ => ?_)
                    · refine g_iinc (ls' := [some (.ref sb), some (.ref (κ.b + 0)), some (.ref (κ.b + 249)), some (.int (l3 + 6))]) hC d_Lw_law_1103 rfl k_i6 rfl rfl ?_
                      refine g_goto (tgt := 28) hC d_Lw_law_1106 (by decide) ?_
                      exact ih (l3 + 6) M65
                    · refine g_iconst hC d_Lw_law_439 k_i0 ?_
                      exact g_none
                  · refine g_ite (fun e75 => ?_) (fun e75 => ?_)
                    · refine g_tabIn (tgt := 441) hC d_Lw_law_43 e75 (by decide) (by decide) rfl (by decide) ?_
                      refine g_aload_n hC d_Lw_law_441 rfl ?_
                      refine g_aload_n hC d_Lw_law_442 rfl ?_
                      refine g_iload_n hC d_Lw_law_443 rfl ?_
                      refine g_iconst hC d_Lw_law_444 k_i1 ?_
                      refine g_iadd hC d_Lw_law_445 ?_
                      refine g_xald hC hR d_Lw_law_446 (fun x67 => ?_)
                      refine g_aload_n hC d_Lw_law_447 rfl ?_
                      refine g_iload_n hC d_Lw_law_448 rfl ?_
                      refine g_iconst hC d_Lw_law_449 k_i2 ?_
                      refine g_iadd hC d_Lw_law_450 ?_
                      refine g_xald hC hR d_Lw_law_451 (fun x68 => ?_)
                      refine gv_callVi hC [.int x67, .int x68] cw_Lw_56 (Xx_eye_c F x67 x68 M) lc_0 rfl rfl rfl rfl rfl rfl rfl d_Lw_law_452 (fun r69 M70 => ?_)
                      refine g_aload_n hC d_Lw_law_455 rfl ?_
                      refine g_aload_n hC d_Lw_law_456 rfl ?_
                      refine g_iload_n hC d_Lw_law_457 rfl ?_
                      refine g_iconst hC d_Lw_law_458 k_i1 ?_
                      refine g_iadd hC d_Lw_law_459 ?_
                      refine g_xald hC hR d_Lw_law_460 (fun x71 => ?_)
                      refine g_aload_n hC d_Lw_law_461 rfl ?_
                      refine g_iload_n hC d_Lw_law_462 rfl ?_
                      refine g_iconst hC d_Lw_law_463 k_i2 ?_
                      refine g_iadd hC d_Lw_law_464 ?_
                      refine g_xald hC hR d_Lw_law_465 (fun x72 => ?_)
                      refine gv_callVi hC [.int x71, .int x72] cw_Lw_60 (Md_eye_c F x71 x72 M70) lc_249 rfl rfl rfl rfl rfl rfl rfl d_Lw_law_466 (fun r73 M74 => ?_)
                      refine g_icmp_eq (tgt := 1103) hC d_Lw_law_469 (by decide) (fun _ => ?_) (fun _ => ?_)
                      · refine g_iinc (ls' := [some (.ref sb), some (.ref (κ.b + 0)), some (.ref (κ.b + 249)), some (.int (l3 + 6))]) hC d_Lw_law_1103 rfl k_i6 rfl rfl ?_
                        refine g_goto (tgt := 28) hC d_Lw_law_1106 (by decide) ?_
                        exact ih (l3 + 6) M74
                      · refine g_iconst hC d_Lw_law_472 k_i0 ?_
                        exact g_none
                    · refine g_ite (fun e82 => ?_) (fun e82 => ?_)
                      · refine g_tabIn (tgt := 474) hC d_Lw_law_43 e82 (by decide) (by decide) rfl (by decide) ?_
                        refine g_aload_n hC d_Lw_law_474 rfl ?_
                        refine g_aload_n hC d_Lw_law_475 rfl ?_
                        refine g_iload_n hC d_Lw_law_476 rfl ?_
                        refine g_iconst hC d_Lw_law_477 k_i1 ?_
                        refine g_iadd hC d_Lw_law_478 ?_
                        refine g_xald hC hR d_Lw_law_479 (fun x76 => ?_)
                        refine gv_callVi hC [.int x76] cw_Lw_61 (Xx_all_c F x76 M) lc_0 rfl rfl rfl rfl rfl rfl rfl d_Lw_law_480 (fun r77 M78 => ?_)
                        refine g_aload_n hC d_Lw_law_483 rfl ?_
                        refine g_aload_n hC d_Lw_law_484 rfl ?_
                        refine g_iload_n hC d_Lw_law_485 rfl ?_
                        refine g_iconst hC d_Lw_law_486 k_i1 ?_
                        refine g_iadd hC d_Lw_law_487 ?_
                        refine g_xald hC hR d_Lw_law_488 (fun x79 => ?_)
                        refine gv_callVi hC [.int x79] cw_Lw_64 (Md_all_c F x79 M78) lc_249 rfl rfl rfl rfl rfl rfl rfl d_Lw_law_489 (fun r80 M81 => ?_)
                        refine g_icmp_eq (tgt := 1103) hC d_Lw_law_492 (by decide) (fun _ => ?_) (fun _ => ?_)
                        · refine g_iinc (ls' := [some (.ref sb), some (.ref (κ.b + 0)), some (.ref (κ.b + 249)), some (.int (l3 + 6))]) hC d_Lw_law_1103 rfl k_i6 rfl rfl ?_
                          refine g_goto (tgt := 28) hC d_Lw_law_1106 (by decide) ?_
                          exact ih (l3 + 6) M81
                        · refine g_iconst hC d_Lw_law_495 k_i0 ?_
                          exact g_none
                      · refine g_ite (fun e91 => ?_) (fun e91 => ?_)
                        · refine g_tabIn (tgt := 497) hC d_Lw_law_43 e91 (by decide) (by decide) rfl (by decide) ?_
                          refine g_aload_n hC d_Lw_law_497 rfl ?_
                          refine g_aload_n hC d_Lw_law_498 rfl ?_
                          refine g_iload_n hC d_Lw_law_499 rfl ?_
                          refine g_iconst hC d_Lw_law_500 k_i1 ?_
                          refine g_iadd hC d_Lw_law_501 ?_
                          refine g_xald hC hR d_Lw_law_502 (fun x83 => ?_)
                          refine g_aload_n hC d_Lw_law_503 rfl ?_
                          refine g_iload_n hC d_Lw_law_504 rfl ?_
                          refine g_iconst hC d_Lw_law_505 k_i2 ?_
                          refine g_iadd hC d_Lw_law_506 ?_
                          refine g_xald hC hR d_Lw_law_507 (fun x84 => ?_)
                          refine gv_callVi hC [.int x83, .int x84] cw_Lw_65 (Xx_basis_c F x83 x84 M) lc_0 rfl rfl rfl rfl rfl rfl rfl d_Lw_law_508 (fun r85 M86 => ?_)
                          refine g_aload_n hC d_Lw_law_511 rfl ?_
                          refine g_aload_n hC d_Lw_law_512 rfl ?_
                          refine g_iload_n hC d_Lw_law_513 rfl ?_
                          refine g_iconst hC d_Lw_law_514 k_i1 ?_
                          refine g_iadd hC d_Lw_law_515 ?_
                          refine g_xald hC hR d_Lw_law_516 (fun x87 => ?_)
                          refine g_aload_n hC d_Lw_law_517 rfl ?_
                          refine g_iload_n hC d_Lw_law_518 rfl ?_
                          refine g_iconst hC d_Lw_law_519 k_i2 ?_
                          refine g_iadd hC d_Lw_law_520 ?_
                          refine g_xald hC hR d_Lw_law_521 (fun x88 => ?_)
                          refine gv_callVi hC [.int x87, .int x88] cw_Lw_68 (Md_basis_c F x87 x88 M86) lc_249 rfl rfl rfl rfl rfl rfl rfl d_Lw_law_522 (fun r89 M90 => ?_)
                          refine g_icmp_eq (tgt := 1103) hC d_Lw_law_525 (by decide) (fun _ => ?_) (fun _ => ?_)
                          · refine g_iinc (ls' := [some (.ref sb), some (.ref (κ.b + 0)), some (.ref (κ.b + 249)), some (.int (l3 + 6))]) hC d_Lw_law_1103 rfl k_i6 rfl rfl ?_
                            refine g_goto (tgt := 28) hC d_Lw_law_1106 (by decide) ?_
                            exact ih (l3 + 6) M90
                          · refine g_iconst hC d_Lw_law_528 k_i0 ?_
                            exact g_none
                        · refine g_ite (fun e102 => ?_) (fun e102 => ?_)
                          · refine g_tabIn (tgt := 530) hC d_Lw_law_43 e102 (by decide) (by decide) rfl (by decide) ?_
                            refine g_aload_n hC d_Lw_law_530 rfl ?_
                            refine g_aload_n hC d_Lw_law_531 rfl ?_
                            refine g_iload_n hC d_Lw_law_532 rfl ?_
                            refine g_iconst hC d_Lw_law_533 k_i1 ?_
                            refine g_iadd hC d_Lw_law_534 ?_
                            refine g_xald hC hR d_Lw_law_535 (fun x92 => ?_)
                            refine g_aload_n hC d_Lw_law_536 rfl ?_
                            refine g_iload_n hC d_Lw_law_537 rfl ?_
                            refine g_iconst hC d_Lw_law_538 k_i2 ?_
                            refine g_iadd hC d_Lw_law_539 ?_
                            refine g_xald hC hR d_Lw_law_540 (fun x93 => ?_)
                            refine g_aload_n hC d_Lw_law_541 rfl ?_
                            refine g_iload_n hC d_Lw_law_542 rfl ?_
                            refine g_iconst hC d_Lw_law_543 k_i3 ?_
                            refine g_iadd hC d_Lw_law_544 ?_
                            refine g_xald hC hR d_Lw_law_545 (fun x94 => ?_)
                            refine gv_callVi hC [.int x92, .int x93, .int x94] cw_Lw_69 (Xx_reading_c F x92 x93 x94 M) lc_0 rfl rfl rfl rfl rfl rfl rfl d_Lw_law_546 (fun r95 M96 => ?_)
                            refine g_aload_n hC d_Lw_law_549 rfl ?_
                            refine g_aload_n hC d_Lw_law_550 rfl ?_
                            refine g_iload_n hC d_Lw_law_551 rfl ?_
                            refine g_iconst hC d_Lw_law_552 k_i1 ?_
                            refine g_iadd hC d_Lw_law_553 ?_
                            refine g_xald hC hR d_Lw_law_554 (fun x97 => ?_)
                            refine g_aload_n hC d_Lw_law_555 rfl ?_
                            refine g_iload_n hC d_Lw_law_556 rfl ?_
                            refine g_iconst hC d_Lw_law_557 k_i2 ?_
                            refine g_iadd hC d_Lw_law_558 ?_
                            refine g_xald hC hR d_Lw_law_559 (fun x98 => ?_)
                            refine g_aload_n hC d_Lw_law_560 rfl ?_
                            refine g_iload_n hC d_Lw_law_561 rfl ?_
                            refine g_iconst hC d_Lw_law_562 k_i3 ?_
                            refine g_iadd hC d_Lw_law_563 ?_
                            refine g_xald hC hR d_Lw_law_564 (fun x99 => ?_)
                            refine gv_callVi hC [.int x97, .int x98, .int x99] cw_Lw_72 (Md_reading_c F x97 x98 x99 M96) lc_249 rfl rfl rfl rfl rfl rfl rfl d_Lw_law_565 (fun r100 M101 => ?_)
                            refine g_icmp_eq (tgt := 1103) hC d_Lw_law_568 (by decide) (fun _ => ?_) (fun _ => ?_)
                            · refine g_iinc (ls' := [some (.ref sb), some (.ref (κ.b + 0)), some (.ref (κ.b + 249)), some (.int (l3 + 6))]) hC d_Lw_law_1103 rfl k_i6 rfl rfl ?_
                              refine g_goto (tgt := 28) hC d_Lw_law_1106 (by decide) ?_
                              exact ih (l3 + 6) M101
                            · refine g_iconst hC d_Lw_law_571 k_i0 ?_
                              exact g_none
                          · refine g_ite (fun e109 => ?_) (fun e109 => ?_)
                            · refine g_tabIn (tgt := 573) hC d_Lw_law_43 e109 (by decide) (by decide) rfl (by decide) ?_
                              refine g_aload_n hC d_Lw_law_573 rfl ?_
                              refine g_aload_n hC d_Lw_law_574 rfl ?_
                              refine g_iload_n hC d_Lw_law_575 rfl ?_
                              refine g_iconst hC d_Lw_law_576 k_i1 ?_
                              refine g_iadd hC d_Lw_law_577 ?_
                              refine g_xald hC hR d_Lw_law_578 (fun x103 => ?_)
                              refine gv_callVi hC [.int x103] cw_Lw_73 (Xx_unread_c F x103 M) lc_0 rfl rfl rfl rfl rfl rfl rfl d_Lw_law_579 (fun r104 M105 => ?_)
                              refine g_aload_n hC d_Lw_law_582 rfl ?_
                              refine g_aload_n hC d_Lw_law_583 rfl ?_
                              refine g_iload_n hC d_Lw_law_584 rfl ?_
                              refine g_iconst hC d_Lw_law_585 k_i1 ?_
                              refine g_iadd hC d_Lw_law_586 ?_
                              refine g_xald hC hR d_Lw_law_587 (fun x106 => ?_)
                              refine gv_callVi hC [.int x106] cw_Lw_76 (Md_unread_c F x106 M105) lc_249 rfl rfl rfl rfl rfl rfl rfl d_Lw_law_588 (fun r107 M108 => ?_)
                              refine g_icmp_eq (tgt := 1103) hC d_Lw_law_591 (by decide) (fun _ => ?_) (fun _ => ?_)
                              · refine g_iinc (ls' := [some (.ref sb), some (.ref (κ.b + 0)), some (.ref (κ.b + 249)), some (.int (l3 + 6))]) hC d_Lw_law_1103 rfl k_i6 rfl rfl ?_
                                refine g_goto (tgt := 28) hC d_Lw_law_1106 (by decide) ?_
                                exact ih (l3 + 6) M108
                              · refine g_iconst hC d_Lw_law_594 k_i0 ?_
                                exact g_none
                            · refine g_ite (fun e116 => ?_) (fun e116 => ?_)
                              · refine g_tabIn (tgt := 596) hC d_Lw_law_43 e116 (by decide) (by decide) rfl (by decide) ?_
                                refine g_aload_n hC d_Lw_law_596 rfl ?_
                                refine g_aload_n hC d_Lw_law_597 rfl ?_
                                refine g_iload_n hC d_Lw_law_598 rfl ?_
                                refine g_iconst hC d_Lw_law_599 k_i1 ?_
                                refine g_iadd hC d_Lw_law_600 ?_
                                refine g_xald hC hR d_Lw_law_601 (fun x110 => ?_)
                                refine gv_callVi hC [.int x110] cw_Lw_77 (Xx_fill_c F x110 M) lc_0 rfl rfl rfl rfl rfl rfl rfl d_Lw_law_602 (fun r111 M112 => ?_)
                                refine g_aload_n hC d_Lw_law_605 rfl ?_
                                refine g_aload_n hC d_Lw_law_606 rfl ?_
                                refine g_iload_n hC d_Lw_law_607 rfl ?_
                                refine g_iconst hC d_Lw_law_608 k_i1 ?_
                                refine g_iadd hC d_Lw_law_609 ?_
                                refine g_xald hC hR d_Lw_law_610 (fun x113 => ?_)
                                refine gv_callVi hC [.int x113] cw_Lw_80 (Md_fill_c F x113 M112) lc_249 rfl rfl rfl rfl rfl rfl rfl d_Lw_law_611 (fun r114 M115 => ?_)
                                refine g_icmp_eq (tgt := 1103) hC d_Lw_law_614 (by decide) (fun _ => ?_) (fun _ => ?_)
                                · refine g_iinc (ls' := [some (.ref sb), some (.ref (κ.b + 0)), some (.ref (κ.b + 249)), some (.int (l3 + 6))]) hC d_Lw_law_1103 rfl k_i6 rfl rfl ?_
                                  refine g_goto (tgt := 28) hC d_Lw_law_1106 (by decide) ?_
                                  exact ih (l3 + 6) M115
                                · refine g_iconst hC d_Lw_law_617 k_i0 ?_
                                  exact g_none
                              · refine g_ite (fun e123 => ?_) (fun e123 => ?_)
                                · refine g_tabIn (tgt := 619) hC d_Lw_law_43 e123 (by decide) (by decide) rfl (by decide) ?_
                                  refine g_aload_n hC d_Lw_law_619 rfl ?_
                                  refine g_aload_n hC d_Lw_law_620 rfl ?_
                                  refine g_iload_n hC d_Lw_law_621 rfl ?_
                                  refine g_iconst hC d_Lw_law_622 k_i1 ?_
                                  refine g_iadd hC d_Lw_law_623 ?_
                                  refine g_xald hC hR d_Lw_law_624 (fun x117 => ?_)
                                  refine gv_callVi hC [.int x117] cw_Lw_81 (Xx_fixed_c F x117 M) lc_0 rfl rfl rfl rfl rfl rfl rfl d_Lw_law_625 (fun r118 M119 => ?_)
                                  refine g_aload_n hC d_Lw_law_628 rfl ?_
                                  refine g_aload_n hC d_Lw_law_629 rfl ?_
                                  refine g_iload_n hC d_Lw_law_630 rfl ?_
                                  refine g_iconst hC d_Lw_law_631 k_i1 ?_
                                  refine g_iadd hC d_Lw_law_632 ?_
                                  refine g_xald hC hR d_Lw_law_633 (fun x120 => ?_)
                                  refine gv_callVi hC [.int x120] cw_Lw_84 (Md_fixed_c F x120 M119) lc_249 rfl rfl rfl rfl rfl rfl rfl d_Lw_law_634 (fun r121 M122 => ?_)
                                  refine g_icmp_eq (tgt := 1103) hC d_Lw_law_637 (by decide) (fun _ => ?_) (fun _ => ?_)
                                  · refine g_iinc (ls' := [some (.ref sb), some (.ref (κ.b + 0)), some (.ref (κ.b + 249)), some (.int (l3 + 6))]) hC d_Lw_law_1103 rfl k_i6 rfl rfl ?_
                                    refine g_goto (tgt := 28) hC d_Lw_law_1106 (by decide) ?_
                                    exact ih (l3 + 6) M122
                                  · refine g_iconst hC d_Lw_law_640 k_i0 ?_
                                    exact g_none
                                · refine g_ite (fun e128 => ?_) (fun e128 => ?_)
                                  · refine g_tabIn (tgt := 642) hC d_Lw_law_43 e128 (by decide) (by decide) rfl (by decide) ?_
                                    refine g_aload_n hC d_Lw_law_642 rfl ?_
                                    refine gv_callVi hC [] cw_Lw_85 (Xx_fewest_c F M) lc_0 rfl rfl rfl rfl rfl rfl rfl d_Lw_law_643 (fun r124 M125 => ?_)
                                    refine g_aload_n hC d_Lw_law_646 rfl ?_
                                    refine gv_callVi hC [] cw_Lw_88 (Md_fewest_c F M125) lc_249 rfl rfl rfl rfl rfl rfl rfl d_Lw_law_647 (fun r126 M127 => ?_)
                                    refine g_icmp_eq (tgt := 1103) hC d_Lw_law_650 (by decide) (fun _ => ?_) (fun _ => ?_)
                                    · refine g_iinc (ls' := [some (.ref sb), some (.ref (κ.b + 0)), some (.ref (κ.b + 249)), some (.int (l3 + 6))]) hC d_Lw_law_1103 rfl k_i6 rfl rfl ?_
                                      refine g_goto (tgt := 28) hC d_Lw_law_1106 (by decide) ?_
                                      exact ih (l3 + 6) M127
                                    · refine g_iconst hC d_Lw_law_653 k_i0 ?_
                                      exact g_none
                                  · refine g_ite (fun e139 => ?_) (fun e139 => ?_)
                                    · refine g_tabIn (tgt := 655) hC d_Lw_law_43 e139 (by decide) (by decide) rfl (by decide) ?_
                                      refine g_aload_n hC d_Lw_law_655 rfl ?_
                                      refine g_aload_n hC d_Lw_law_656 rfl ?_
                                      refine g_iload_n hC d_Lw_law_657 rfl ?_
                                      refine g_iconst hC d_Lw_law_658 k_i1 ?_
                                      refine g_iadd hC d_Lw_law_659 ?_
                                      refine g_xald hC hR d_Lw_law_660 (fun x129 => ?_)
                                      refine g_aload_n hC d_Lw_law_661 rfl ?_
                                      refine g_iload_n hC d_Lw_law_662 rfl ?_
                                      refine g_iconst hC d_Lw_law_663 k_i2 ?_
                                      refine g_iadd hC d_Lw_law_664 ?_
                                      refine g_xald hC hR d_Lw_law_665 (fun x130 => ?_)
                                      refine g_aload_n hC d_Lw_law_666 rfl ?_
                                      refine g_iload_n hC d_Lw_law_667 rfl ?_
                                      refine g_iconst hC d_Lw_law_668 k_i3 ?_
                                      refine g_iadd hC d_Lw_law_669 ?_
                                      refine g_xald hC hR d_Lw_law_670 (fun x131 => ?_)
                                      refine gv_callVi hC [.int x129, .int x130, .int x131] cw_Lw_89 (Xx_met_c F x129 x130 x131 M) lc_0 rfl rfl rfl rfl rfl rfl rfl d_Lw_law_671 (fun r132 M133 => ?_)
                                      refine g_aload_n hC d_Lw_law_674 rfl ?_
                                      refine g_aload_n hC d_Lw_law_675 rfl ?_
                                      refine g_iload_n hC d_Lw_law_676 rfl ?_
                                      refine g_iconst hC d_Lw_law_677 k_i1 ?_
                                      refine g_iadd hC d_Lw_law_678 ?_
                                      refine g_xald hC hR d_Lw_law_679 (fun x134 => ?_)
                                      refine g_aload_n hC d_Lw_law_680 rfl ?_
                                      refine g_iload_n hC d_Lw_law_681 rfl ?_
                                      refine g_iconst hC d_Lw_law_682 k_i2 ?_
                                      refine g_iadd hC d_Lw_law_683 ?_
                                      refine g_xald hC hR d_Lw_law_684 (fun x135 => ?_)
                                      refine g_aload_n hC d_Lw_law_685 rfl ?_
                                      refine g_iload_n hC d_Lw_law_686 rfl ?_
                                      refine g_iconst hC d_Lw_law_687 k_i3 ?_
                                      refine g_iadd hC d_Lw_law_688 ?_
                                      refine g_xald hC hR d_Lw_law_689 (fun x136 => ?_)
                                      refine gv_callVi hC [.int x134, .int x135, .int x136] cw_Lw_92 (Md_met_c F x134 x135 x136 M133) lc_249 rfl rfl rfl rfl rfl rfl rfl d_Lw_law_690 (fun r137 M138 => ?_)
                                      refine g_icmp_eq (tgt := 1103) hC d_Lw_law_693 (by decide) (fun _ => ?_) (fun _ => ?_)
                                      · refine g_iinc (ls' := [some (.ref sb), some (.ref (κ.b + 0)), some (.ref (κ.b + 249)), some (.int (l3 + 6))]) hC d_Lw_law_1103 rfl k_i6 rfl rfl ?_
                                        refine g_goto (tgt := 28) hC d_Lw_law_1106 (by decide) ?_
                                        exact ih (l3 + 6) M138
                                      · refine g_iconst hC d_Lw_law_696 k_i0 ?_
                                        exact g_none
                                    · refine g_ite (fun e146 => ?_) (fun e146 => ?_)
                                      · refine g_tabIn (tgt := 698) hC d_Lw_law_43 e146 (by decide) (by decide) rfl (by decide) ?_
                                        refine g_aload_n hC d_Lw_law_698 rfl ?_
                                        refine g_aload_n hC d_Lw_law_699 rfl ?_
                                        refine g_iload_n hC d_Lw_law_700 rfl ?_
                                        refine g_iconst hC d_Lw_law_701 k_i1 ?_
                                        refine g_iadd hC d_Lw_law_702 ?_
                                        refine g_xald hC hR d_Lw_law_703 (fun x140 => ?_)
                                        refine gv_callVi hC [.int x140] cw_Lw_93 (Xx_cost_c F x140 M) lc_0 rfl rfl rfl rfl rfl rfl rfl d_Lw_law_704 (fun r141 M142 => ?_)
                                        refine g_aload_n hC d_Lw_law_707 rfl ?_
                                        refine g_aload_n hC d_Lw_law_708 rfl ?_
                                        refine g_iload_n hC d_Lw_law_709 rfl ?_
                                        refine g_iconst hC d_Lw_law_710 k_i1 ?_
                                        refine g_iadd hC d_Lw_law_711 ?_
                                        refine g_xald hC hR d_Lw_law_712 (fun x143 => ?_)
                                        refine gv_callVi hC [.int x143] cw_Lw_96 (Md_cost_c F x143 M142) lc_249 rfl rfl rfl rfl rfl rfl rfl d_Lw_law_713 (fun r144 M145 => ?_)
                                        refine g_icmp_eq (tgt := 1103) hC d_Lw_law_716 (by decide) (fun _ => ?_) (fun _ => ?_)
                                        · refine g_iinc (ls' := [some (.ref sb), some (.ref (κ.b + 0)), some (.ref (κ.b + 249)), some (.int (l3 + 6))]) hC d_Lw_law_1103 rfl k_i6 rfl rfl ?_
                                          refine g_goto (tgt := 28) hC d_Lw_law_1106 (by decide) ?_
                                          exact ih (l3 + 6) M145
                                        · refine g_iconst hC d_Lw_law_719 k_i0 ?_
                                          exact g_none
                                      · refine g_ite (fun e157 => ?_) (fun e157 => ?_)
                                        · refine g_tabIn (tgt := 721) hC d_Lw_law_43 e157 (by decide) (by decide) rfl (by decide) ?_
                                          refine g_aload_n hC d_Lw_law_721 rfl ?_
                                          refine g_aload_n hC d_Lw_law_722 rfl ?_
                                          refine g_iload_n hC d_Lw_law_723 rfl ?_
                                          refine g_iconst hC d_Lw_law_724 k_i1 ?_
                                          refine g_iadd hC d_Lw_law_725 ?_
                                          refine g_xald hC hR d_Lw_law_726 (fun x147 => ?_)
                                          refine g_aload_n hC d_Lw_law_727 rfl ?_
                                          refine g_iload_n hC d_Lw_law_728 rfl ?_
                                          refine g_iconst hC d_Lw_law_729 k_i2 ?_
                                          refine g_iadd hC d_Lw_law_730 ?_
                                          refine g_xald hC hR d_Lw_law_731 (fun x148 => ?_)
                                          refine g_aload_n hC d_Lw_law_732 rfl ?_
                                          refine g_iload_n hC d_Lw_law_733 rfl ?_
                                          refine g_iconst hC d_Lw_law_734 k_i3 ?_
                                          refine g_iadd hC d_Lw_law_735 ?_
                                          refine g_xald hC hR d_Lw_law_736 (fun x149 => ?_)
                                          refine gv_callVi hC [.int x147, .int x148, .int x149] cw_Lw_97 (Xx_hear_c F x147 x148 x149 M) lc_0 rfl rfl rfl rfl rfl rfl rfl d_Lw_law_737 (fun r150 M151 => ?_)
                                          refine g_aload_n hC d_Lw_law_740 rfl ?_
                                          refine g_aload_n hC d_Lw_law_741 rfl ?_
                                          refine g_iload_n hC d_Lw_law_742 rfl ?_
                                          refine g_iconst hC d_Lw_law_743 k_i1 ?_
                                          refine g_iadd hC d_Lw_law_744 ?_
                                          refine g_xald hC hR d_Lw_law_745 (fun x152 => ?_)
                                          refine g_aload_n hC d_Lw_law_746 rfl ?_
                                          refine g_iload_n hC d_Lw_law_747 rfl ?_
                                          refine g_iconst hC d_Lw_law_748 k_i2 ?_
                                          refine g_iadd hC d_Lw_law_749 ?_
                                          refine g_xald hC hR d_Lw_law_750 (fun x153 => ?_)
                                          refine g_aload_n hC d_Lw_law_751 rfl ?_
                                          refine g_iload_n hC d_Lw_law_752 rfl ?_
                                          refine g_iconst hC d_Lw_law_753 k_i3 ?_
                                          refine g_iadd hC d_Lw_law_754 ?_
                                          refine g_xald hC hR d_Lw_law_755 (fun x154 => ?_)
                                          refine gv_callVi hC [.int x152, .int x153, .int x154] cw_Lw_100 (Md_hear_c F x152 x153 x154 M151) lc_249 rfl rfl rfl rfl rfl rfl rfl d_Lw_law_756 (fun r155 M156 => ?_)
                                          refine g_icmp_eq (tgt := 1103) hC d_Lw_law_759 (by decide) (fun _ => ?_) (fun _ => ?_)
                                          · refine g_iinc (ls' := [some (.ref sb), some (.ref (κ.b + 0)), some (.ref (κ.b + 249)), some (.int (l3 + 6))]) hC d_Lw_law_1103 rfl k_i6 rfl rfl ?_
                                            refine g_goto (tgt := 28) hC d_Lw_law_1106 (by decide) ?_
                                            exact ih (l3 + 6) M156
                                          · refine g_iconst hC d_Lw_law_762 k_i0 ?_
                                            exact g_none
                                        · refine g_ite (fun e168 => ?_) (fun e168 => ?_)
                                          · refine g_tabIn (tgt := 764) hC d_Lw_law_43 e168 (by decide) (by decide) rfl (by decide) ?_
                                            refine g_aload_n hC d_Lw_law_764 rfl ?_
                                            refine g_aload_n hC d_Lw_law_765 rfl ?_
                                            refine g_iload_n hC d_Lw_law_766 rfl ?_
                                            refine g_iconst hC d_Lw_law_767 k_i1 ?_
                                            refine g_iadd hC d_Lw_law_768 ?_
                                            refine g_xald hC hR d_Lw_law_769 (fun x158 => ?_)
                                            refine g_aload_n hC d_Lw_law_770 rfl ?_
                                            refine g_iload_n hC d_Lw_law_771 rfl ?_
                                            refine g_iconst hC d_Lw_law_772 k_i2 ?_
                                            refine g_iadd hC d_Lw_law_773 ?_
                                            refine g_xald hC hR d_Lw_law_774 (fun x159 => ?_)
                                            refine g_aload_n hC d_Lw_law_775 rfl ?_
                                            refine g_iload_n hC d_Lw_law_776 rfl ?_
                                            refine g_iconst hC d_Lw_law_777 k_i3 ?_
                                            refine g_iadd hC d_Lw_law_778 ?_
                                            refine g_xald hC hR d_Lw_law_779 (fun x160 => ?_)
                                            refine gv_callVi hC [.int x158, .int x159, .int x160] cw_Lw_101 (Xx_now_c F x158 x159 x160 M) lc_0 rfl rfl rfl rfl rfl rfl rfl d_Lw_law_780 (fun r161 M162 => ?_)
                                            refine g_aload_n hC d_Lw_law_783 rfl ?_
                                            refine g_aload_n hC d_Lw_law_784 rfl ?_
                                            refine g_iload_n hC d_Lw_law_785 rfl ?_
                                            refine g_iconst hC d_Lw_law_786 k_i1 ?_
                                            refine g_iadd hC d_Lw_law_787 ?_
                                            refine g_xald hC hR d_Lw_law_788 (fun x163 => ?_)
                                            refine g_aload_n hC d_Lw_law_789 rfl ?_
                                            refine g_iload_n hC d_Lw_law_790 rfl ?_
                                            refine g_iconst hC d_Lw_law_791 k_i2 ?_
                                            refine g_iadd hC d_Lw_law_792 ?_
                                            refine g_xald hC hR d_Lw_law_793 (fun x164 => ?_)
                                            refine g_aload_n hC d_Lw_law_794 rfl ?_
                                            refine g_iload_n hC d_Lw_law_795 rfl ?_
                                            refine g_iconst hC d_Lw_law_796 k_i3 ?_
                                            refine g_iadd hC d_Lw_law_797 ?_
                                            refine g_xald hC hR d_Lw_law_798 (fun x165 => ?_)
                                            refine gv_callVi hC [.int x163, .int x164, .int x165] cw_Lw_104 (Md_now_c F x163 x164 x165 M162) lc_249 rfl rfl rfl rfl rfl rfl rfl d_Lw_law_799 (fun r166 M167 => ?_)
                                            refine g_icmp_eq (tgt := 1103) hC d_Lw_law_802 (by decide) (fun _ => ?_) (fun _ => ?_)
                                            · refine g_iinc (ls' := [some (.ref sb), some (.ref (κ.b + 0)), some (.ref (κ.b + 249)), some (.int (l3 + 6))]) hC d_Lw_law_1103 rfl k_i6 rfl rfl ?_
                                              refine g_goto (tgt := 28) hC d_Lw_law_1106 (by decide) ?_
                                              exact ih (l3 + 6) M167
                                            · refine g_iconst hC d_Lw_law_805 k_i0 ?_
                                              exact g_none
                                          · refine g_ite (fun e175 => ?_) (fun e175 => ?_)
                                            · refine g_tabIn (tgt := 807) hC d_Lw_law_43 e175 (by decide) (by decide) rfl (by decide) ?_
                                              refine g_aload_n hC d_Lw_law_807 rfl ?_
                                              refine g_aload_n hC d_Lw_law_808 rfl ?_
                                              refine g_iload_n hC d_Lw_law_809 rfl ?_
                                              refine g_iconst hC d_Lw_law_810 k_i1 ?_
                                              refine g_iadd hC d_Lw_law_811 ?_
                                              refine g_xald hC hR d_Lw_law_812 (fun x169 => ?_)
                                              refine gv_callVi hC [.int x169] cw_Lw_105 (Xx_tick_c F x169 M) lc_0 rfl rfl rfl rfl rfl rfl rfl d_Lw_law_813 (fun r170 M171 => ?_)
                                              refine g_aload_n hC d_Lw_law_816 rfl ?_
                                              refine g_aload_n hC d_Lw_law_817 rfl ?_
                                              refine g_iload_n hC d_Lw_law_818 rfl ?_
                                              refine g_iconst hC d_Lw_law_819 k_i1 ?_
                                              refine g_iadd hC d_Lw_law_820 ?_
                                              refine g_xald hC hR d_Lw_law_821 (fun x172 => ?_)
                                              refine gv_callVi hC [.int x172] cw_Lw_108 (Md_tick_c F x172 M171) lc_249 rfl rfl rfl rfl rfl rfl rfl d_Lw_law_822 (fun r173 M174 => ?_)
                                              refine g_icmp_eq (tgt := 1103) hC d_Lw_law_825 (by decide) (fun _ => ?_) (fun _ => ?_)
                                              · refine g_iinc (ls' := [some (.ref sb), some (.ref (κ.b + 0)), some (.ref (κ.b + 249)), some (.int (l3 + 6))]) hC d_Lw_law_1103 rfl k_i6 rfl rfl ?_
                                                refine g_goto (tgt := 28) hC d_Lw_law_1106 (by decide) ?_
                                                exact ih (l3 + 6) M174
                                              · refine g_iconst hC d_Lw_law_828 k_i0 ?_
                                                exact g_none
                                            · refine g_ite (fun e184 => ?_) (fun e184 => ?_)
                                              · refine g_tabIn (tgt := 830) hC d_Lw_law_43 e184 (by decide) (by decide) rfl (by decide) ?_
                                                refine g_aload_n hC d_Lw_law_830 rfl ?_
                                                refine g_aload_n hC d_Lw_law_831 rfl ?_
                                                refine g_iload_n hC d_Lw_law_832 rfl ?_
                                                refine g_iconst hC d_Lw_law_833 k_i1 ?_
                                                refine g_iadd hC d_Lw_law_834 ?_
                                                refine g_xald hC hR d_Lw_law_835 (fun x176 => ?_)
                                                refine g_aload_n hC d_Lw_law_836 rfl ?_
                                                refine g_iload_n hC d_Lw_law_837 rfl ?_
                                                refine g_iconst hC d_Lw_law_838 k_i2 ?_
                                                refine g_iadd hC d_Lw_law_839 ?_
                                                refine g_xald hC hR d_Lw_law_840 (fun x177 => ?_)
                                                refine gv_callVi hC [.int x176, .int x177] cw_Lw_109 (Xx_says_c F x176 x177 M) lc_0 rfl rfl rfl rfl rfl rfl rfl d_Lw_law_841 (fun r178 M179 => ?_)
                                                refine g_aload_n hC d_Lw_law_844 rfl ?_
                                                refine g_aload_n hC d_Lw_law_845 rfl ?_
                                                refine g_iload_n hC d_Lw_law_846 rfl ?_
                                                refine g_iconst hC d_Lw_law_847 k_i1 ?_
                                                refine g_iadd hC d_Lw_law_848 ?_
                                                refine g_xald hC hR d_Lw_law_849 (fun x180 => ?_)
                                                refine g_aload_n hC d_Lw_law_850 rfl ?_
                                                refine g_iload_n hC d_Lw_law_851 rfl ?_
                                                refine g_iconst hC d_Lw_law_852 k_i2 ?_
                                                refine g_iadd hC d_Lw_law_853 ?_
                                                refine g_xald hC hR d_Lw_law_854 (fun x181 => ?_)
                                                refine gv_callVi hC [.int x180, .int x181] cw_Lw_112 (Md_says_c F x180 x181 M179) lc_249 rfl rfl rfl rfl rfl rfl rfl d_Lw_law_855 (fun r182 M183 => ?_)
                                                refine g_icmp_eq (tgt := 1103) hC d_Lw_law_858 (by decide) (fun _ => ?_) (fun _ => ?_)
                                                · refine g_iinc (ls' := [some (.ref sb), some (.ref (κ.b + 0)), some (.ref (κ.b + 249)), some (.int (l3 + 6))]) hC d_Lw_law_1103 rfl k_i6 rfl rfl ?_
                                                  refine g_goto (tgt := 28) hC d_Lw_law_1106 (by decide) ?_
                                                  exact ih (l3 + 6) M183
                                                · refine g_iconst hC d_Lw_law_861 k_i0 ?_
                                                  exact g_none
                                              · refine g_ite (fun e191 => ?_) (fun e191 => ?_)
                                                · refine g_tabIn (tgt := 863) hC d_Lw_law_43 e191 (by decide) (by decide) rfl (by decide) ?_
                                                  refine g_aload_n hC d_Lw_law_863 rfl ?_
                                                  refine g_aload_n hC d_Lw_law_864 rfl ?_
                                                  refine g_iload_n hC d_Lw_law_865 rfl ?_
                                                  refine g_iconst hC d_Lw_law_866 k_i1 ?_
                                                  refine g_iadd hC d_Lw_law_867 ?_
                                                  refine g_xald hC hR d_Lw_law_868 (fun x185 => ?_)
                                                  refine gv_callVi hC [.int x185] cw_Lw_113 (Xx_settles_c F x185 M) lc_0 rfl rfl rfl rfl rfl rfl rfl d_Lw_law_869 (fun r186 M187 => ?_)
                                                  refine g_aload_n hC d_Lw_law_872 rfl ?_
                                                  refine g_aload_n hC d_Lw_law_873 rfl ?_
                                                  refine g_iload_n hC d_Lw_law_874 rfl ?_
                                                  refine g_iconst hC d_Lw_law_875 k_i1 ?_
                                                  refine g_iadd hC d_Lw_law_876 ?_
                                                  refine g_xald hC hR d_Lw_law_877 (fun x188 => ?_)
                                                  refine gv_callVi hC [.int x188] cw_Lw_116 (Md_settles_c F x188 M187) lc_249 rfl rfl rfl rfl rfl rfl rfl d_Lw_law_878 (fun r189 M190 => ?_)
                                                  refine g_icmp_eq (tgt := 1103) hC d_Lw_law_881 (by decide) (fun _ => ?_) (fun _ => ?_)
                                                  · refine g_iinc (ls' := [some (.ref sb), some (.ref (κ.b + 0)), some (.ref (κ.b + 249)), some (.int (l3 + 6))]) hC d_Lw_law_1103 rfl k_i6 rfl rfl ?_
                                                    refine g_goto (tgt := 28) hC d_Lw_law_1106 (by decide) ?_
                                                    exact ih (l3 + 6) M190
                                                  · refine g_iconst hC d_Lw_law_884 k_i0 ?_
                                                    exact g_none
                                                · refine g_ite (fun e200 => ?_) (fun e200 => ?_)
                                                  · refine g_tabIn (tgt := 886) hC d_Lw_law_43 e200 (by decide) (by decide) rfl (by decide) ?_
                                                    refine g_aload_n hC d_Lw_law_886 rfl ?_
                                                    refine g_aload_n hC d_Lw_law_887 rfl ?_
                                                    refine g_iload_n hC d_Lw_law_888 rfl ?_
                                                    refine g_iconst hC d_Lw_law_889 k_i1 ?_
                                                    refine g_iadd hC d_Lw_law_890 ?_
                                                    refine g_xald hC hR d_Lw_law_891 (fun x192 => ?_)
                                                    refine g_aload_n hC d_Lw_law_892 rfl ?_
                                                    refine g_iload_n hC d_Lw_law_893 rfl ?_
                                                    refine g_iconst hC d_Lw_law_894 k_i2 ?_
                                                    refine g_iadd hC d_Lw_law_895 ?_
                                                    refine g_xald hC hR d_Lw_law_896 (fun x193 => ?_)
                                                    refine gv_callVi hC [.int x192, .int x193] cw_Lw_117 (Xx_choose_c F x192 x193 M) lc_0 rfl rfl rfl rfl rfl rfl rfl d_Lw_law_897 (fun r194 M195 => ?_)
                                                    refine g_aload_n hC d_Lw_law_900 rfl ?_
                                                    refine g_aload_n hC d_Lw_law_901 rfl ?_
                                                    refine g_iload_n hC d_Lw_law_902 rfl ?_
                                                    refine g_iconst hC d_Lw_law_903 k_i1 ?_
                                                    refine g_iadd hC d_Lw_law_904 ?_
                                                    refine g_xald hC hR d_Lw_law_905 (fun x196 => ?_)
                                                    refine g_aload_n hC d_Lw_law_906 rfl ?_
                                                    refine g_iload_n hC d_Lw_law_907 rfl ?_
                                                    refine g_iconst hC d_Lw_law_908 k_i2 ?_
                                                    refine g_iadd hC d_Lw_law_909 ?_
                                                    refine g_xald hC hR d_Lw_law_910 (fun x197 => ?_)
                                                    refine gv_callVi hC [.int x196, .int x197] cw_Lw_120 (Md_choose_c F x196 x197 M195) lc_249 rfl rfl rfl rfl rfl rfl rfl d_Lw_law_911 (fun r198 M199 => ?_)
                                                    refine g_icmp_eq (tgt := 1103) hC d_Lw_law_914 (by decide) (fun _ => ?_) (fun _ => ?_)
                                                    · refine g_iinc (ls' := [some (.ref sb), some (.ref (κ.b + 0)), some (.ref (κ.b + 249)), some (.int (l3 + 6))]) hC d_Lw_law_1103 rfl k_i6 rfl rfl ?_
                                                      refine g_goto (tgt := 28) hC d_Lw_law_1106 (by decide) ?_
                                                      exact ih (l3 + 6) M199
                                                    · refine g_iconst hC d_Lw_law_917 k_i0 ?_
                                                      exact g_none
                                                  · refine g_ite (fun e205 => ?_) (fun e205 => ?_)
                                                    · refine g_tabIn (tgt := 919) hC d_Lw_law_43 e205 (by decide) (by decide) rfl (by decide) ?_
                                                      refine g_aload_n hC d_Lw_law_919 rfl ?_
                                                      refine gv_callVi hC [] cw_Lw_121 (Xx_narrow_c F M) lc_0 rfl rfl rfl rfl rfl rfl rfl d_Lw_law_920 (fun r201 M202 => ?_)
                                                      refine g_aload_n hC d_Lw_law_923 rfl ?_
                                                      refine gv_callVi hC [] cw_Lw_124 (Md_narrow_c F M202) lc_249 rfl rfl rfl rfl rfl rfl rfl d_Lw_law_924 (fun r203 M204 => ?_)
                                                      refine g_icmp_eq (tgt := 1103) hC d_Lw_law_927 (by decide) (fun _ => ?_) (fun _ => ?_)
                                                      · refine g_iinc (ls' := [some (.ref sb), some (.ref (κ.b + 0)), some (.ref (κ.b + 249)), some (.int (l3 + 6))]) hC d_Lw_law_1103 rfl k_i6 rfl rfl ?_
                                                        refine g_goto (tgt := 28) hC d_Lw_law_1106 (by decide) ?_
                                                        exact ih (l3 + 6) M204
                                                      · refine g_iconst hC d_Lw_law_930 k_i0 ?_
                                                        exact g_none
                                                    · refine g_ite (fun e212 => ?_) (fun e212 => ?_)
                                                      · refine g_tabIn (tgt := 932) hC d_Lw_law_43 e212 (by decide) (by decide) rfl (by decide) ?_
                                                        refine g_aload_n hC d_Lw_law_932 rfl ?_
                                                        refine g_aload_n hC d_Lw_law_933 rfl ?_
                                                        refine g_iload_n hC d_Lw_law_934 rfl ?_
                                                        refine g_iconst hC d_Lw_law_935 k_i1 ?_
                                                        refine g_iadd hC d_Lw_law_936 ?_
                                                        refine g_xald hC hR d_Lw_law_937 (fun x206 => ?_)
                                                        refine gv_callVi hC [.int x206] cw_Lw_125 (Xx_fills_c F x206 M) lc_0 rfl rfl rfl rfl rfl rfl rfl d_Lw_law_938 (fun r207 M208 => ?_)
                                                        refine g_aload_n hC d_Lw_law_941 rfl ?_
                                                        refine g_aload_n hC d_Lw_law_942 rfl ?_
                                                        refine g_iload_n hC d_Lw_law_943 rfl ?_
                                                        refine g_iconst hC d_Lw_law_944 k_i1 ?_
                                                        refine g_iadd hC d_Lw_law_945 ?_
                                                        refine g_xald hC hR d_Lw_law_946 (fun x209 => ?_)
                                                        refine gv_callVi hC [.int x209] cw_Lw_128 (Md_fills_c F x209 M208) lc_249 rfl rfl rfl rfl rfl rfl rfl d_Lw_law_947 (fun r210 M211 => ?_)
                                                        refine g_icmp_eq (tgt := 1103) hC d_Lw_law_950 (by decide) (fun _ => ?_) (fun _ => ?_)
                                                        · refine g_iinc (ls' := [some (.ref sb), some (.ref (κ.b + 0)), some (.ref (κ.b + 249)), some (.int (l3 + 6))]) hC d_Lw_law_1103 rfl k_i6 rfl rfl ?_
                                                          refine g_goto (tgt := 28) hC d_Lw_law_1106 (by decide) ?_
                                                          exact ih (l3 + 6) M211
                                                        · refine g_iconst hC d_Lw_law_953 k_i0 ?_
                                                          exact g_none
                                                      · refine g_ite (fun e219 => ?_) (fun e219 => ?_)
                                                        · refine g_tabIn (tgt := 955) hC d_Lw_law_43 e219 (by decide) (by decide) rfl (by decide) ?_
                                                          refine g_aload_n hC d_Lw_law_955 rfl ?_
                                                          refine g_aload_n hC d_Lw_law_956 rfl ?_
                                                          refine g_iload_n hC d_Lw_law_957 rfl ?_
                                                          refine g_iconst hC d_Lw_law_958 k_i1 ?_
                                                          refine g_iadd hC d_Lw_law_959 ?_
                                                          refine g_xald hC hR d_Lw_law_960 (fun x213 => ?_)
                                                          refine gv_callVi hC [.int x213] cw_Lw_129 (Xx_kind_c F x213 M) lc_0 rfl rfl rfl rfl rfl rfl rfl d_Lw_law_961 (fun r214 M215 => ?_)
                                                          refine g_aload_n hC d_Lw_law_964 rfl ?_
                                                          refine g_aload_n hC d_Lw_law_965 rfl ?_
                                                          refine g_iload_n hC d_Lw_law_966 rfl ?_
                                                          refine g_iconst hC d_Lw_law_967 k_i1 ?_
                                                          refine g_iadd hC d_Lw_law_968 ?_
                                                          refine g_xald hC hR d_Lw_law_969 (fun x216 => ?_)
                                                          refine gv_callVi hC [.int x216] cw_Lw_132 (Md_kind_c F x216 M215) lc_249 rfl rfl rfl rfl rfl rfl rfl d_Lw_law_970 (fun r217 M218 => ?_)
                                                          refine g_icmp_eq (tgt := 1103) hC d_Lw_law_973 (by decide) (fun _ => ?_) (fun _ => ?_)
                                                          · refine g_iinc (ls' := [some (.ref sb), some (.ref (κ.b + 0)), some (.ref (κ.b + 249)), some (.int (l3 + 6))]) hC d_Lw_law_1103 rfl k_i6 rfl rfl ?_
                                                            refine g_goto (tgt := 28) hC d_Lw_law_1106 (by decide) ?_
                                                            exact ih (l3 + 6) M218
                                                          · refine g_iconst hC d_Lw_law_976 k_i0 ?_
                                                            exact g_none
                                                        · refine g_ite (fun e228 => ?_) (fun e228 => ?_)
                                                          · refine g_tabIn (tgt := 978) hC d_Lw_law_43 e228 (by decide) (by decide) rfl (by decide) ?_
                                                            refine g_aload_n hC d_Lw_law_978 rfl ?_
                                                            refine g_aload_n hC d_Lw_law_979 rfl ?_
                                                            refine g_iload_n hC d_Lw_law_980 rfl ?_
                                                            refine g_iconst hC d_Lw_law_981 k_i1 ?_
                                                            refine g_iadd hC d_Lw_law_982 ?_
                                                            refine g_xald hC hR d_Lw_law_983 (fun x220 => ?_)
                                                            refine g_aload_n hC d_Lw_law_984 rfl ?_
                                                            refine g_iload_n hC d_Lw_law_985 rfl ?_
                                                            refine g_iconst hC d_Lw_law_986 k_i2 ?_
                                                            refine g_iadd hC d_Lw_law_987 ?_
                                                            refine g_xald hC hR d_Lw_law_988 (fun x221 => ?_)
                                                            refine gv_callVi hC [.int x220, .int x221] cw_Lw_133 (Xx_as_c F x220 x221 M) lc_0 rfl rfl rfl rfl rfl rfl rfl d_Lw_law_989 (fun r222 M223 => ?_)
                                                            refine g_aload_n hC d_Lw_law_992 rfl ?_
                                                            refine g_aload_n hC d_Lw_law_993 rfl ?_
                                                            refine g_iload_n hC d_Lw_law_994 rfl ?_
                                                            refine g_iconst hC d_Lw_law_995 k_i1 ?_
                                                            refine g_iadd hC d_Lw_law_996 ?_
                                                            refine g_xald hC hR d_Lw_law_997 (fun x224 => ?_)
                                                            refine g_aload_n hC d_Lw_law_998 rfl ?_
                                                            refine g_iload_n hC d_Lw_law_999 rfl ?_
                                                            refine g_iconst hC d_Lw_law_1000 k_i2 ?_
                                                            refine g_iadd hC d_Lw_law_1001 ?_
                                                            refine g_xald hC hR d_Lw_law_1002 (fun x225 => ?_)
                                                            refine gv_callVi hC [.int x224, .int x225] cw_Lw_136 (Md_as_c F x224 x225 M223) lc_249 rfl rfl rfl rfl rfl rfl rfl d_Lw_law_1003 (fun r226 M227 => ?_)
                                                            refine g_icmp_eq (tgt := 1103) hC d_Lw_law_1006 (by decide) (fun _ => ?_) (fun _ => ?_)
                                                            · refine g_iinc (ls' := [some (.ref sb), some (.ref (κ.b + 0)), some (.ref (κ.b + 249)), some (.int (l3 + 6))]) hC d_Lw_law_1103 rfl k_i6 rfl rfl ?_
                                                              refine g_goto (tgt := 28) hC d_Lw_law_1106 (by decide) ?_
                                                              exact ih (l3 + 6) M227
                                                            · refine g_iconst hC d_Lw_law_1009 k_i0 ?_
                                                              exact g_none
                                                          · refine g_ite (fun e237 => ?_) (fun e237 => ?_)
                                                            · refine g_tabIn (tgt := 1011) hC d_Lw_law_43 e237 (by decide) (by decide) rfl (by decide) ?_
                                                              refine g_aload_n hC d_Lw_law_1011 rfl ?_
                                                              refine g_aload_n hC d_Lw_law_1012 rfl ?_
                                                              refine g_iload_n hC d_Lw_law_1013 rfl ?_
                                                              refine g_iconst hC d_Lw_law_1014 k_i1 ?_
                                                              refine g_iadd hC d_Lw_law_1015 ?_
                                                              refine g_xald hC hR d_Lw_law_1016 (fun x229 => ?_)
                                                              refine g_aload_n hC d_Lw_law_1017 rfl ?_
                                                              refine g_iload_n hC d_Lw_law_1018 rfl ?_
                                                              refine g_iconst hC d_Lw_law_1019 k_i2 ?_
                                                              refine g_iadd hC d_Lw_law_1020 ?_
                                                              refine g_xald hC hR d_Lw_law_1021 (fun x230 => ?_)
                                                              refine gv_callVi hC [.int x229, .int x230] cw_Lw_137 (Xx_ask_c F x229 x230 M) lc_0 rfl rfl rfl rfl rfl rfl rfl d_Lw_law_1022 (fun r231 M232 => ?_)
                                                              refine g_aload_n hC d_Lw_law_1025 rfl ?_
                                                              refine g_aload_n hC d_Lw_law_1026 rfl ?_
                                                              refine g_iload_n hC d_Lw_law_1027 rfl ?_
                                                              refine g_iconst hC d_Lw_law_1028 k_i1 ?_
                                                              refine g_iadd hC d_Lw_law_1029 ?_
                                                              refine g_xald hC hR d_Lw_law_1030 (fun x233 => ?_)
                                                              refine g_aload_n hC d_Lw_law_1031 rfl ?_
                                                              refine g_iload_n hC d_Lw_law_1032 rfl ?_
                                                              refine g_iconst hC d_Lw_law_1033 k_i2 ?_
                                                              refine g_iadd hC d_Lw_law_1034 ?_
                                                              refine g_xald hC hR d_Lw_law_1035 (fun x234 => ?_)
                                                              refine gv_callVi hC [.int x233, .int x234] cw_Lw_140 (Md_ask_c F x233 x234 M232) lc_249 rfl rfl rfl rfl rfl rfl rfl d_Lw_law_1036 (fun r235 M236 => ?_)
                                                              refine g_icmp_eq (tgt := 1103) hC d_Lw_law_1039 (by decide) (fun _ => ?_) (fun _ => ?_)
                                                              · refine g_iinc (ls' := [some (.ref sb), some (.ref (κ.b + 0)), some (.ref (κ.b + 249)), some (.int (l3 + 6))]) hC d_Lw_law_1103 rfl k_i6 rfl rfl ?_
                                                                refine g_goto (tgt := 28) hC d_Lw_law_1106 (by decide) ?_
                                                                exact ih (l3 + 6) M236
                                                              · refine g_iconst hC d_Lw_law_1042 k_i0 ?_
                                                                exact g_none
                                                            · refine g_ite (fun e244 => ?_) (fun e244 => ?_)
                                                              · refine g_tabIn (tgt := 1044) hC d_Lw_law_43 e244 (by decide) (by decide) rfl (by decide) ?_
                                                                refine g_aload_n hC d_Lw_law_1044 rfl ?_
                                                                refine g_aload_n hC d_Lw_law_1045 rfl ?_
                                                                refine g_iload_n hC d_Lw_law_1046 rfl ?_
                                                                refine g_iconst hC d_Lw_law_1047 k_i1 ?_
                                                                refine g_iadd hC d_Lw_law_1048 ?_
                                                                refine g_xald hC hR d_Lw_law_1049 (fun x238 => ?_)
                                                                refine gv_callVi hC [.int x238] cw_Lw_141 (Xx_trace_c F x238 M) lc_0 rfl rfl rfl rfl rfl rfl rfl d_Lw_law_1050 (fun r239 M240 => ?_)
                                                                refine g_aload_n hC d_Lw_law_1053 rfl ?_
                                                                refine g_aload_n hC d_Lw_law_1054 rfl ?_
                                                                refine g_iload_n hC d_Lw_law_1055 rfl ?_
                                                                refine g_iconst hC d_Lw_law_1056 k_i1 ?_
                                                                refine g_iadd hC d_Lw_law_1057 ?_
                                                                refine g_xald hC hR d_Lw_law_1058 (fun x241 => ?_)
                                                                refine gv_callVi hC [.int x241] cw_Lw_144 (Md_trace_c F x241 M240) lc_249 rfl rfl rfl rfl rfl rfl rfl d_Lw_law_1059 (fun r242 M243 => ?_)
                                                                refine g_icmp_eq (tgt := 1103) hC d_Lw_law_1062 (by decide) (fun _ => ?_) (fun _ => ?_)
                                                                · refine g_iinc (ls' := [some (.ref sb), some (.ref (κ.b + 0)), some (.ref (κ.b + 249)), some (.int (l3 + 6))]) hC d_Lw_law_1103 rfl k_i6 rfl rfl ?_
                                                                  refine g_goto (tgt := 28) hC d_Lw_law_1106 (by decide) ?_
                                                                  exact ih (l3 + 6) M243
                                                                · refine g_iconst hC d_Lw_law_1065 k_i0 ?_
                                                                  exact g_none
                                                              · refine g_ite (fun e251 => ?_) (fun e251 => ?_)
                                                                · refine g_tabIn (tgt := 1067) hC d_Lw_law_43 e251 (by decide) (by decide) rfl (by decide) ?_
                                                                  refine g_aload_n hC d_Lw_law_1067 rfl ?_
                                                                  refine g_aload_n hC d_Lw_law_1068 rfl ?_
                                                                  refine g_iload_n hC d_Lw_law_1069 rfl ?_
                                                                  refine g_iconst hC d_Lw_law_1070 k_i1 ?_
                                                                  refine g_iadd hC d_Lw_law_1071 ?_
                                                                  refine g_xald hC hR d_Lw_law_1072 (fun x245 => ?_)
                                                                  refine gv_callVi hC [.int x245] cw_Lw_145 (Xx_count_c F x245 M) lc_0 rfl rfl rfl rfl rfl rfl rfl d_Lw_law_1073 (fun r246 M247 => ?_)
                                                                  refine g_aload_n hC d_Lw_law_1076 rfl ?_
                                                                  refine g_aload_n hC d_Lw_law_1077 rfl ?_
                                                                  refine g_iload_n hC d_Lw_law_1078 rfl ?_
                                                                  refine g_iconst hC d_Lw_law_1079 k_i1 ?_
                                                                  refine g_iadd hC d_Lw_law_1080 ?_
                                                                  refine g_xald hC hR d_Lw_law_1081 (fun x248 => ?_)
                                                                  refine gv_callVi hC [.int x248] cw_Lw_148 (Md_count_c F x248 M247) lc_249 rfl rfl rfl rfl rfl rfl rfl d_Lw_law_1082 (fun r249 M250 => ?_)
                                                                  refine g_icmp_eq (tgt := 1103) hC d_Lw_law_1085 (by decide) (fun _ => ?_) (fun _ => ?_)
                                                                  · refine g_iinc (ls' := [some (.ref sb), some (.ref (κ.b + 0)), some (.ref (κ.b + 249)), some (.int (l3 + 6))]) hC d_Lw_law_1103 rfl k_i6 rfl rfl ?_
                                                                    refine g_goto (tgt := 28) hC d_Lw_law_1106 (by decide) ?_
                                                                    exact ih (l3 + 6) M250
                                                                  · refine g_iconst hC d_Lw_law_1088 k_i0 ?_
                                                                    exact g_none
                                                                · refine g_ite (fun e256 => ?_) (fun e256 => ?_)
                                                                  · refine g_tabIn (tgt := 1090) hC d_Lw_law_43 e256 (by decide) (by decide) rfl (by decide) ?_
                                                                    refine g_aload_n hC d_Lw_law_1090 rfl ?_
                                                                    refine gv_callVi hC [] cw_Lw_149 (Xx_status_c F M) lc_0 rfl rfl rfl rfl rfl rfl rfl d_Lw_law_1091 (fun r252 M253 => ?_)
                                                                    refine g_aload_n hC d_Lw_law_1094 rfl ?_
                                                                    refine gv_callVi hC [] cw_Lw_152 (Md_status_c F M253) lc_249 rfl rfl rfl rfl rfl rfl rfl d_Lw_law_1095 (fun r254 M255 => ?_)
                                                                    refine g_icmp_eq (tgt := 1103) hC d_Lw_law_1098 (by decide) (fun _ => ?_) (fun _ => ?_)
                                                                    · refine g_iinc (ls' := [some (.ref sb), some (.ref (κ.b + 0)), some (.ref (κ.b + 249)), some (.int (l3 + 6))]) hC d_Lw_law_1103 rfl k_i6 rfl rfl ?_
                                                                      refine g_goto (tgt := 28) hC d_Lw_law_1106 (by decide) ?_
                                                                      exact ih (l3 + 6) M255
                                                                    · refine g_iconst hC d_Lw_law_1101 k_i0 ?_
                                                                      exact g_none
                                                                  · refine g_tabOut (tgt := 1103) hC d_Lw_law_43 (by have w0 := lv_neT e12 (a := 0) (by decide); have w1 := lv_neT e23 (a := 1) (by decide); have w2 := lv_neT e38 (a := 2) (by decide); have w3 := lv_neT e45 (a := 3) (by decide); have w4 := lv_neT e56 (a := 4) (by decide); have w5 := lv_neT e61 (a := 5) (by decide); have w6 := lv_neT e66 (a := 6) (by decide); have w7 := lv_neT e75 (a := 7) (by decide); have w8 := lv_neT e82 (a := 8) (by decide); have w9 := lv_neT e91 (a := 9) (by decide); have w10 := lv_neT e102 (a := 10) (by decide); have w11 := lv_neT e109 (a := 11) (by decide); have w12 := lv_neT e116 (a := 12) (by decide); have w13 := lv_neT e123 (a := 13) (by decide); have w14 := lv_neT e128 (a := 14) (by decide); have w15 := lv_neT e139 (a := 15) (by decide); have w16 := lv_neT e146 (a := 16) (by decide); have w17 := lv_neT e157 (a := 17) (by decide); have w18 := lv_neT e168 (a := 18) (by decide); have w19 := lv_neT e175 (a := 19) (by decide); have w20 := lv_neT e184 (a := 20) (by decide); have w21 := lv_neT e191 (a := 21) (by decide); have w22 := lv_neT e200 (a := 22) (by decide); have w23 := lv_neT e205 (a := 23) (by decide); have w24 := lv_neT e212 (a := 24) (by decide); have w25 := lv_neT e219 (a := 25) (by decide); have w26 := lv_neT e228 (a := 26) (by decide); have w27 := lv_neT e237 (a := 27) (by decide); have w28 := lv_neT e244 (a := 28) (by decide); have w29 := lv_neT e251 (a := 29) (by decide); have w30 := lv_neT e256 (a := 30) (by decide); omega) (by decide) ?_
                                                                    refine g_iinc (ls' := [some (.ref sb), some (.ref (κ.b + 0)), some (.ref (κ.b + 249)), some (.int (l3 + 6))]) hC d_Lw_law_1103 rfl k_i6 rfl rfl ?_
                                                                    refine g_goto (tgt := 28) hC d_Lw_law_1106 (by decide) ?_
                                                                    exact ih (l3 + 6) M
