noncomputable def law_0 (L : Nat) (xs : Nat → Int32) (x4 : Int32) (h : am_H) : Option am_H :=
  if ib (x4 + (iI (1))) L then (if ib (x4 + (iI (2))) L then (if ib (x4 + (iI (3))) L then (if ib (x4 + (iI (4))) L then (if ib (x4 + (iI (5))) L then ((f_L_feed (xs ((x4 + (iI (1)))).toNatClampNeg) (xs ((x4 + (iI (2)))).toNatClampNeg) (xs ((x4 + (iI (3)))).toNatClampNeg) (xs ((x4 + (iI (4)))).toNatClampNeg) (xs ((x4 + (iI (5)))).toNatClampNeg) h).bind (fun a1 => if ib (x4 + (iI (1))) L then (if ib (x4 + (iI (2))) L then (if ib (x4 + (iI (3))) L then (if ib (x4 + (iI (4))) L then (if ib (x4 + (iI (5))) L then ((f_X12_feed (xs ((x4 + (iI (1)))).toNatClampNeg) (xs ((x4 + (iI (2)))).toNatClampNeg) (xs ((x4 + (iI (3)))).toNatClampNeg) (xs ((x4 + (iI (4)))).toNatClampNeg) (xs ((x4 + (iI (5)))).toNatClampNeg) a1.2).bind (fun a2 => (f_X12_thrown a2.2).bind (fun a3 => if a3 = a1.1 then (if a1.1 = 0 then (if ib (iI (0)) 1 then (if (lg_cmp (a2.2.2.1 (.inl 1) 18 ((iI (0))).toNatClampNeg) a2.1.toInt64) = 0 then (some a2.2) else (none)) else none) else (some a2.2)) else (none)))) else none) else none) else none) else none) else none)) else none) else none) else none) else none) else none
theorem c_law_0 {mc ms b L : Nat} {xs : Nat → Int32} {Tm : Nat → List am_v → am_H → Prop} {cs ss : Nat} {x4 : Int32} {h : am_H} (hc9 : cs + 1 ≤ mc) (hs9 : ss + 6 ≤ ms) (H : wp (law_0 L xs x4 h) (fun h9 => am_V RL cL_law 9 (some .boolean) 14 532 mc ms (am_scr b L xs) Tm (cs + 1) (ss + 6) 23 [some (.inl (.ref b)), some (am_r (.inl 1) 0), some (am_r (.inl 0) 0), some (am_r (.inl 1) 18), some (am_i (x4 + iI (6))), none, none, none, none] [] h9)) : am_V RL cL_law 9 (some .boolean) 14 532 mc ms (am_scr b L xs) Tm cs ss 228 [some (.inl (.ref b)), some (am_r (.inl 1) 0), some (am_r (.inl 0) 0), some (am_r (.inl 1) 18), some (am_i x4), none, none, none, none] [] h := by
  unfold law_0 at H
  refine rl_a1 dL_law_228 ?_
  refine ar_aloadS dL_law_229 ?_
  refine rl_i4 dL_law_230 ?_
  refine ar_iconst (iI (1)) dL_law_232 rfl ?_
  refine ar_iadd dL_law_233 ?_
  obtain ⟨b1, H⟩ := wp_g H
  refine ar_sld dL_law_234 (ib_in b1) ?_
  refine ar_aloadS dL_law_235 ?_
  refine rl_i4 dL_law_236 ?_
  refine ar_iconst (iI (2)) dL_law_238 rfl ?_
  refine ar_iadd dL_law_239 ?_
  obtain ⟨b2, H⟩ := wp_g H
  refine ar_sld dL_law_240 (ib_in b2) ?_
  refine ar_aloadS dL_law_241 ?_
  refine rl_i4 dL_law_242 ?_
  refine ar_iconst (iI (3)) dL_law_244 rfl ?_
  refine ar_iadd dL_law_245 ?_
  obtain ⟨b3, H⟩ := wp_g H
  refine ar_sld dL_law_246 (ib_in b3) ?_
  refine ar_aloadS dL_law_247 ?_
  refine rl_i4 dL_law_248 ?_
  refine ar_iconst (iI (4)) dL_law_250 rfl ?_
  refine ar_iadd dL_law_251 ?_
  obtain ⟨b4, H⟩ := wp_g H
  refine ar_sld dL_law_252 (ib_in b4) ?_
  refine ar_aloadS dL_law_253 ?_
  refine rl_i4 dL_law_254 ?_
  refine ar_iconst (iI (5)) dL_law_256 rfl ?_
  refine ar_iadd dL_law_257 ?_
  obtain ⟨b5, H⟩ := wp_g H
  refine ar_sld dL_law_258 (ib_in b5) ?_
  refine rl_a3 dL_law_259 ?_
  obtain ⟨a1, e1, H⟩ := wp_b H
  refine ar_callSW (As := [am_r (.inl 1) 0, am_i (xs ((x4 + (iI (1)))).toNatClampNeg), am_i (xs ((x4 + (iI (2)))).toNatClampNeg), am_i (xs ((x4 + (iI (3)))).toNatClampNeg), am_i (xs ((x4 + (iI (4)))).toNatClampNeg), am_i (xs ((x4 + (iI (5)))).toNatClampNeg), am_r (.inl 1) 18]) dL_law_260 ml_L_107 mc_L_feed (c_L_feed e1) rfl (ble rfl) (ble rfl) hc9 hs9 (am_ct_le rfl) (fun r h9 hq => ?_)
  obtain ⟨rfl, rfl⟩ := hq
  refine rs_i5 dL_law_263 rfl trivial ?_
  refine rl_a2 dL_law_265 ?_
  refine ar_aloadS dL_law_266 ?_
  refine rl_i4 dL_law_267 ?_
  refine ar_iconst (iI (1)) dL_law_269 rfl ?_
  refine ar_iadd dL_law_270 ?_
  obtain ⟨b6, H⟩ := wp_g H
  refine ar_sld dL_law_271 (ib_in b6) ?_
  refine ar_aloadS dL_law_272 ?_
  refine rl_i4 dL_law_273 ?_
  refine ar_iconst (iI (2)) dL_law_275 rfl ?_
  refine ar_iadd dL_law_276 ?_
  obtain ⟨b7, H⟩ := wp_g H
  refine ar_sld dL_law_277 (ib_in b7) ?_
  refine ar_aloadS dL_law_278 ?_
  refine rl_i4 dL_law_279 ?_
  refine ar_iconst (iI (3)) dL_law_281 rfl ?_
  refine ar_iadd dL_law_282 ?_
  obtain ⟨b8, H⟩ := wp_g H
  refine ar_sld dL_law_283 (ib_in b8) ?_
  refine ar_aloadS dL_law_284 ?_
  refine rl_i4 dL_law_285 ?_
  refine ar_iconst (iI (4)) dL_law_287 rfl ?_
  refine ar_iadd dL_law_288 ?_
  obtain ⟨b9, H⟩ := wp_g H
  refine ar_sld dL_law_289 (ib_in b9) ?_
  refine ar_aloadS dL_law_290 ?_
  refine rl_i4 dL_law_291 ?_
  refine ar_iconst (iI (5)) dL_law_293 rfl ?_
  refine ar_iadd dL_law_294 ?_
  obtain ⟨b10, H⟩ := wp_g H
  refine ar_sld dL_law_295 (ib_in b10) ?_
  obtain ⟨a2, e2, H⟩ := wp_b H
  refine rc_V5i dL_law_296 ml_L_112 mc_X12_feed (c_X12_feed e2) rfl rfl rfl (ok_M rfl) rfl rfl rfl ?_
  refine rs_i6 dL_law_299 rfl trivial ?_
  refine rl_a2 dL_law_301 ?_
  obtain ⟨a3, e3, H⟩ := wp_b H
  refine rc_V0i dL_law_302 ml_L_113 mc_X12_thrown (c_X12_thrown e3) rfl rfl rfl (ok_M rfl) rfl rfl rfl ?_
  refine rl_i5 dL_law_305 ?_
  refine ar_ic_eq 312 dL_law_307 (by decide) (fun c1 => ?_) (fun c1 => ?_)
  · replace H := wp_t c1 H
    refine rl_i5 dL_law_312 ?_
    refine ar_if_ne 329 dL_law_314 (by decide) (fun c2 => ?_) (fun c2 => ?_)
    · replace H := wp_f c2 H
      refine ar_goto 2109 dL_law_329 (by decide) ?_
      replace H := wp_s H
      refine rn_m_4 (v := x4 + iI (6)) dL_law_2109 rfl trivial rfl ?_
      refine ar_goto 23 dL_law_2112 (by decide) ?_
      exact am_V.wk (am_s (am_s (am_s (am_s (am_s (am_n (am_n (am_n (am_n am_0))))))))) (am_V.up (by omega) (by omega) hc9 hs9 H)
    · replace H := wp_t c2 H
      refine rl_a3 dL_law_317 ?_
      refine ar_iconst (iI (0)) dL_law_318 rfl ?_
      obtain ⟨b11, H⟩ := wp_g H
      refine ar_lald dL_law_319 rfl (ok_X rfl) (ib_in b11) ?_
      refine rl_i6 dL_law_320 ?_
      refine ar_i2l dL_law_322 ?_
      refine ar_lcmp dL_law_323 ?_
      refine ar_if_eq 329 dL_law_324 (by decide) (fun c3 => ?_) (fun c3 => ?_)
      · replace H := wp_t c3 H
        refine ar_goto 2109 dL_law_329 (by decide) ?_
        replace H := wp_s H
        refine rn_m_4 (v := x4 + iI (6)) dL_law_2109 rfl trivial rfl ?_
        refine ar_goto 23 dL_law_2112 (by decide) ?_
        exact am_V.wk (am_s (am_s (am_s (am_s (am_s (am_n (am_n (am_n (am_n am_0))))))))) (am_V.up (by omega) (by omega) hc9 hs9 H)
      · replace H := wp_f c3 H
        refine ar_iconst (iI (0)) dL_law_327 rfl ?_
        exact (wp_n H).elim
  · replace H := wp_f c1 H
    refine ar_iconst (iI (0)) dL_law_310 rfl ?_
    exact (wp_n H).elim
noncomputable def law_1 (L : Nat) (xs : Nat → Int32) (x4 : Int32) (h : am_H) : Option am_H :=
  if ib (x4 + (iI (1))) L then ((f_L_truncate (xs ((x4 + (iI (1)))).toNatClampNeg) h).bind (fun a1 => if ib (x4 + (iI (1))) L then ((f_X12_truncate (xs ((x4 + (iI (1)))).toNatClampNeg) a1.2).bind (fun a2 => (f_X12_thrown a2.2).bind (fun a3 => if a3 = a1.1 then (if a1.1 = 0 then (if ib (iI (0)) 1 then (if (lg_cmp (a2.2.2.1 (.inl 1) 18 ((iI (0))).toNatClampNeg) a2.1.toInt64) = 0 then (some a2.2) else (none)) else none) else (some a2.2)) else (none)))) else none)) else none
theorem c_law_1 {mc ms b L : Nat} {xs : Nat → Int32} {Tm : Nat → List am_v → am_H → Prop} {cs ss : Nat} {x4 : Int32} {h : am_H} (hc9 : cs + 1 ≤ mc) (hs9 : ss + 6 ≤ ms) (H : wp (law_1 L xs x4 h) (fun h9 => am_V RL cL_law 9 (some .boolean) 14 532 mc ms (am_scr b L xs) Tm (cs + 1) (ss + 6) 23 [some (.inl (.ref b)), some (am_r (.inl 1) 0), some (am_r (.inl 0) 0), some (am_r (.inl 1) 18), some (am_i (x4 + iI (6))), none, none, none, none] [] h9)) : am_V RL cL_law 9 (some .boolean) 14 532 mc ms (am_scr b L xs) Tm cs ss 332 [some (.inl (.ref b)), some (am_r (.inl 1) 0), some (am_r (.inl 0) 0), some (am_r (.inl 1) 18), some (am_i x4), none, none, none, none] [] h := by
  unfold law_1 at H
  refine rl_a1 dL_law_332 ?_
  refine ar_aloadS dL_law_333 ?_
  refine rl_i4 dL_law_334 ?_
  refine ar_iconst (iI (1)) dL_law_336 rfl ?_
  refine ar_iadd dL_law_337 ?_
  obtain ⟨b1, H⟩ := wp_g H
  refine ar_sld dL_law_338 (ib_in b1) ?_
  refine rl_a3 dL_law_339 ?_
  obtain ⟨a1, e1, H⟩ := wp_b H
  refine ar_callSW (As := [am_r (.inl 1) 0, am_i (xs ((x4 + (iI (1)))).toNatClampNeg), am_r (.inl 1) 18]) dL_law_340 ml_L_116 mc_L_truncate (c_L_truncate e1) rfl (ble rfl) (ble rfl) hc9 hs9 (am_ct_le rfl) (fun r h9 hq => ?_)
  obtain ⟨rfl, rfl⟩ := hq
  refine rs_i5 dL_law_343 rfl trivial ?_
  refine rl_a2 dL_law_345 ?_
  refine ar_aloadS dL_law_346 ?_
  refine rl_i4 dL_law_347 ?_
  refine ar_iconst (iI (1)) dL_law_349 rfl ?_
  refine ar_iadd dL_law_350 ?_
  obtain ⟨b2, H⟩ := wp_g H
  refine ar_sld dL_law_351 (ib_in b2) ?_
  obtain ⟨a2, e2, H⟩ := wp_b H
  refine rc_V1i dL_law_352 ml_L_119 mc_X12_truncate (c_X12_truncate e2) rfl rfl rfl (ok_M rfl) rfl rfl rfl ?_
  refine rs_i6 dL_law_355 rfl trivial ?_
  refine rl_a2 dL_law_357 ?_
  obtain ⟨a3, e3, H⟩ := wp_b H
  refine rc_V0i dL_law_358 ml_L_113 mc_X12_thrown (c_X12_thrown e3) rfl rfl rfl (ok_M rfl) rfl rfl rfl ?_
  refine rl_i5 dL_law_361 ?_
  refine ar_ic_eq 368 dL_law_363 (by decide) (fun c1 => ?_) (fun c1 => ?_)
  · replace H := wp_t c1 H
    refine rl_i5 dL_law_368 ?_
    refine ar_if_ne 385 dL_law_370 (by decide) (fun c2 => ?_) (fun c2 => ?_)
    · replace H := wp_f c2 H
      refine ar_goto 2109 dL_law_385 (by decide) ?_
      replace H := wp_s H
      refine rn_m_4 (v := x4 + iI (6)) dL_law_2109 rfl trivial rfl ?_
      refine ar_goto 23 dL_law_2112 (by decide) ?_
      exact am_V.wk (am_s (am_s (am_s (am_s (am_s (am_n (am_n (am_n (am_n am_0))))))))) (am_V.up (by omega) (by omega) hc9 hs9 H)
    · replace H := wp_t c2 H
      refine rl_a3 dL_law_373 ?_
      refine ar_iconst (iI (0)) dL_law_374 rfl ?_
      obtain ⟨b3, H⟩ := wp_g H
      refine ar_lald dL_law_375 rfl (ok_X rfl) (ib_in b3) ?_
      refine rl_i6 dL_law_376 ?_
      refine ar_i2l dL_law_378 ?_
      refine ar_lcmp dL_law_379 ?_
      refine ar_if_eq 385 dL_law_380 (by decide) (fun c3 => ?_) (fun c3 => ?_)
      · replace H := wp_t c3 H
        refine ar_goto 2109 dL_law_385 (by decide) ?_
        replace H := wp_s H
        refine rn_m_4 (v := x4 + iI (6)) dL_law_2109 rfl trivial rfl ?_
        refine ar_goto 23 dL_law_2112 (by decide) ?_
        exact am_V.wk (am_s (am_s (am_s (am_s (am_s (am_n (am_n (am_n (am_n am_0))))))))) (am_V.up (by omega) (by omega) hc9 hs9 H)
      · replace H := wp_f c3 H
        refine ar_iconst (iI (0)) dL_law_383 rfl ?_
        exact (wp_n H).elim
  · replace H := wp_f c1 H
    refine ar_iconst (iI (0)) dL_law_366 rfl ?_
    exact (wp_n H).elim
noncomputable def law_2 (L : Nat) (xs : Nat → Int32) (x4 : Int32) (h : am_H) : Option am_H :=
  (f_L_readText h).bind (fun a1 => (f_X12_readText a1.2).bind (fun a2 => (f_X12_thrown a2.2).bind (fun a3 => if a3 = a1.1 then (if a1.1 = 0 then (if ib (iI (0)) 1 then (if (lg_cmp (a2.2.2.1 (.inl 1) 18 ((iI (0))).toNatClampNeg) a2.1.toInt64) = 0 then (some a2.2) else (none)) else none) else (some a2.2)) else (none))))
theorem c_law_2 {mc ms b L : Nat} {xs : Nat → Int32} {Tm : Nat → List am_v → am_H → Prop} {cs ss : Nat} {x4 : Int32} {h : am_H} (hc9 : cs + 1 ≤ mc) (hs9 : ss + 6 ≤ ms) (H : wp (law_2 L xs x4 h) (fun h9 => am_V RL cL_law 9 (some .boolean) 14 532 mc ms (am_scr b L xs) Tm (cs + 1) (ss + 6) 23 [some (.inl (.ref b)), some (am_r (.inl 1) 0), some (am_r (.inl 0) 0), some (am_r (.inl 1) 18), some (am_i (x4 + iI (6))), none, none, none, none] [] h9)) : am_V RL cL_law 9 (some .boolean) 14 532 mc ms (am_scr b L xs) Tm cs ss 388 [some (.inl (.ref b)), some (am_r (.inl 1) 0), some (am_r (.inl 0) 0), some (am_r (.inl 1) 18), some (am_i x4), none, none, none, none] [] h := by
  unfold law_2 at H
  refine rl_a1 dL_law_388 ?_
  refine rl_a3 dL_law_389 ?_
  obtain ⟨a1, e1, H⟩ := wp_b H
  refine ar_callSW (As := [am_r (.inl 1) 0, am_r (.inl 1) 18]) dL_law_390 ml_L_120 mc_L_readText (c_L_readText e1) rfl (ble rfl) (ble rfl) hc9 hs9 (am_ct_le rfl) (fun r h9 hq => ?_)
  obtain ⟨rfl, rfl⟩ := hq
  refine rs_i5 dL_law_393 rfl trivial ?_
  refine rl_a2 dL_law_395 ?_
  obtain ⟨a2, e2, H⟩ := wp_b H
  refine rc_V0i dL_law_396 ml_L_123 mc_X12_readText (c_X12_readText e2) rfl rfl rfl (ok_M rfl) rfl rfl rfl ?_
  refine rs_i6 dL_law_399 rfl trivial ?_
  refine rl_a2 dL_law_401 ?_
  obtain ⟨a3, e3, H⟩ := wp_b H
  refine rc_V0i dL_law_402 ml_L_113 mc_X12_thrown (c_X12_thrown e3) rfl rfl rfl (ok_M rfl) rfl rfl rfl ?_
  refine rl_i5 dL_law_405 ?_
  refine ar_ic_eq 412 dL_law_407 (by decide) (fun c1 => ?_) (fun c1 => ?_)
  · replace H := wp_t c1 H
    refine rl_i5 dL_law_412 ?_
    refine ar_if_ne 429 dL_law_414 (by decide) (fun c2 => ?_) (fun c2 => ?_)
    · replace H := wp_f c2 H
      refine ar_goto 2109 dL_law_429 (by decide) ?_
      replace H := wp_s H
      refine rn_m_4 (v := x4 + iI (6)) dL_law_2109 rfl trivial rfl ?_
      refine ar_goto 23 dL_law_2112 (by decide) ?_
      exact am_V.wk (am_s (am_s (am_s (am_s (am_s (am_n (am_n (am_n (am_n am_0))))))))) (am_V.up (by omega) (by omega) hc9 hs9 H)
    · replace H := wp_t c2 H
      refine rl_a3 dL_law_417 ?_
      refine ar_iconst (iI (0)) dL_law_418 rfl ?_
      obtain ⟨b1, H⟩ := wp_g H
      refine ar_lald dL_law_419 rfl (ok_X rfl) (ib_in b1) ?_
      refine rl_i6 dL_law_420 ?_
      refine ar_i2l dL_law_422 ?_
      refine ar_lcmp dL_law_423 ?_
      refine ar_if_eq 429 dL_law_424 (by decide) (fun c3 => ?_) (fun c3 => ?_)
      · replace H := wp_t c3 H
        refine ar_goto 2109 dL_law_429 (by decide) ?_
        replace H := wp_s H
        refine rn_m_4 (v := x4 + iI (6)) dL_law_2109 rfl trivial rfl ?_
        refine ar_goto 23 dL_law_2112 (by decide) ?_
        exact am_V.wk (am_s (am_s (am_s (am_s (am_s (am_n (am_n (am_n (am_n am_0))))))))) (am_V.up (by omega) (by omega) hc9 hs9 H)
      · replace H := wp_f c3 H
        refine ar_iconst (iI (0)) dL_law_427 rfl ?_
        exact (wp_n H).elim
  · replace H := wp_f c1 H
    refine ar_iconst (iI (0)) dL_law_410 rfl ?_
    exact (wp_n H).elim
noncomputable def law_3 (L : Nat) (xs : Nat → Int32) (x4 : Int32) (h : am_H) : Option am_H :=
  (f_L_runScript h).bind (fun a1 => (f_X12_runScript a1.2).bind (fun a2 => (f_X12_thrown a2.2).bind (fun a3 => if a3 = a1.1 then (if a1.1 = 0 then (if ib (iI (0)) 1 then (if (lg_cmp (a2.2.2.1 (.inl 1) 18 ((iI (0))).toNatClampNeg) a2.1.toInt64) = 0 then (some a2.2) else (none)) else none) else (some a2.2)) else (none))))
theorem c_law_3 {mc ms b L : Nat} {xs : Nat → Int32} {Tm : Nat → List am_v → am_H → Prop} {cs ss : Nat} {x4 : Int32} {h : am_H} (hc9 : cs + 1 ≤ mc) (hs9 : ss + 6 ≤ ms) (H : wp (law_3 L xs x4 h) (fun h9 => am_V RL cL_law 9 (some .boolean) 14 532 mc ms (am_scr b L xs) Tm (cs + 1) (ss + 6) 23 [some (.inl (.ref b)), some (am_r (.inl 1) 0), some (am_r (.inl 0) 0), some (am_r (.inl 1) 18), some (am_i (x4 + iI (6))), none, none, none, none] [] h9)) : am_V RL cL_law 9 (some .boolean) 14 532 mc ms (am_scr b L xs) Tm cs ss 432 [some (.inl (.ref b)), some (am_r (.inl 1) 0), some (am_r (.inl 0) 0), some (am_r (.inl 1) 18), some (am_i x4), none, none, none, none] [] h := by
  unfold law_3 at H
  refine rl_a1 dL_law_432 ?_
  refine rl_a3 dL_law_433 ?_
  obtain ⟨a1, e1, H⟩ := wp_b H
  refine ar_callSW (As := [am_r (.inl 1) 0, am_r (.inl 1) 18]) dL_law_434 ml_L_124 mc_L_runScript (c_L_runScript e1) rfl (ble rfl) (ble rfl) hc9 hs9 (am_ct_le rfl) (fun r h9 hq => ?_)
  obtain ⟨rfl, rfl⟩ := hq
  refine rs_i5 dL_law_437 rfl trivial ?_
  refine rl_a2 dL_law_439 ?_
  obtain ⟨a2, e2, H⟩ := wp_b H
  refine rc_V0i dL_law_440 ml_L_126 mc_X12_runScript (c_X12_runScript e2) rfl rfl rfl (ok_M rfl) rfl rfl rfl ?_
  refine rs_i6 dL_law_443 rfl trivial ?_
  refine rl_a2 dL_law_445 ?_
  obtain ⟨a3, e3, H⟩ := wp_b H
  refine rc_V0i dL_law_446 ml_L_113 mc_X12_thrown (c_X12_thrown e3) rfl rfl rfl (ok_M rfl) rfl rfl rfl ?_
  refine rl_i5 dL_law_449 ?_
  refine ar_ic_eq 456 dL_law_451 (by decide) (fun c1 => ?_) (fun c1 => ?_)
  · replace H := wp_t c1 H
    refine rl_i5 dL_law_456 ?_
    refine ar_if_ne 473 dL_law_458 (by decide) (fun c2 => ?_) (fun c2 => ?_)
    · replace H := wp_f c2 H
      refine ar_goto 2109 dL_law_473 (by decide) ?_
      replace H := wp_s H
      refine rn_m_4 (v := x4 + iI (6)) dL_law_2109 rfl trivial rfl ?_
      refine ar_goto 23 dL_law_2112 (by decide) ?_
      exact am_V.wk (am_s (am_s (am_s (am_s (am_s (am_n (am_n (am_n (am_n am_0))))))))) (am_V.up (by omega) (by omega) hc9 hs9 H)
    · replace H := wp_t c2 H
      refine rl_a3 dL_law_461 ?_
      refine ar_iconst (iI (0)) dL_law_462 rfl ?_
      obtain ⟨b1, H⟩ := wp_g H
      refine ar_lald dL_law_463 rfl (ok_X rfl) (ib_in b1) ?_
      refine rl_i6 dL_law_464 ?_
      refine ar_i2l dL_law_466 ?_
      refine ar_lcmp dL_law_467 ?_
      refine ar_if_eq 473 dL_law_468 (by decide) (fun c3 => ?_) (fun c3 => ?_)
      · replace H := wp_t c3 H
        refine ar_goto 2109 dL_law_473 (by decide) ?_
        replace H := wp_s H
        refine rn_m_4 (v := x4 + iI (6)) dL_law_2109 rfl trivial rfl ?_
        refine ar_goto 23 dL_law_2112 (by decide) ?_
        exact am_V.wk (am_s (am_s (am_s (am_s (am_s (am_n (am_n (am_n (am_n am_0))))))))) (am_V.up (by omega) (by omega) hc9 hs9 H)
      · replace H := wp_f c3 H
        refine ar_iconst (iI (0)) dL_law_471 rfl ?_
        exact (wp_n H).elim
  · replace H := wp_f c1 H
    refine ar_iconst (iI (0)) dL_law_454 rfl ?_
    exact (wp_n H).elim
noncomputable def law_4 (L : Nat) (xs : Nat → Int32) (x4 : Int32) (h : am_H) : Option am_H :=
  (f_X11_errorCode h).bind (fun a1 => (f_X12_errorCode h).bind (fun a2 => if a1 = a2.1 then (some a2.2) else (none)))
theorem c_law_4 {mc ms b L : Nat} {xs : Nat → Int32} {Tm : Nat → List am_v → am_H → Prop} {cs ss : Nat} {x4 : Int32} {h : am_H} (hc9 : cs + 1 ≤ mc) (hs9 : ss + 6 ≤ ms) (H : wp (law_4 L xs x4 h) (fun h9 => am_V RL cL_law 9 (some .boolean) 14 532 mc ms (am_scr b L xs) Tm (cs + 1) (ss + 6) 23 [some (.inl (.ref b)), some (am_r (.inl 1) 0), some (am_r (.inl 0) 0), some (am_r (.inl 1) 18), some (am_i (x4 + iI (6))), none, none, none, none] [] h9)) : am_V RL cL_law 9 (some .boolean) 14 532 mc ms (am_scr b L xs) Tm cs ss 476 [some (.inl (.ref b)), some (am_r (.inl 1) 0), some (am_r (.inl 0) 0), some (am_r (.inl 1) 18), some (am_i x4), none, none, none, none] [] h := by
  unfold law_4 at H
  refine rl_a1 dL_law_476 ?_
  obtain ⟨a1, e1, H⟩ := wp_b H
  refine rc_V0i dL_law_477 ml_L_127 mc_X11_errorCode (c_X11_errorCode e1) rfl rfl rfl (ok_X rfl) rfl rfl rfl ?_
  refine rl_a2 dL_law_480 ?_
  obtain ⟨a2, e2, H⟩ := wp_b H
  refine rc_V0i dL_law_481 ml_L_130 mc_X12_errorCode (c_X12_errorCode e2) rfl rfl rfl (ok_M rfl) rfl rfl rfl ?_
  refine ar_ic_eq 2109 dL_law_484 (by decide) (fun c1 => ?_) (fun c1 => ?_)
  · replace H := wp_t c1 H
    replace H := wp_s H
    refine rn_m_4 (v := x4 + iI (6)) dL_law_2109 rfl trivial rfl ?_
    refine ar_goto 23 dL_law_2112 (by decide) ?_
    exact am_V.wk (am_s (am_s (am_s (am_s (am_s (am_n (am_n (am_n (am_n am_0))))))))) (am_V.up (by omega) (by omega) hc9 hs9 H)
  · replace H := wp_f c1 H
    refine ar_iconst (iI (0)) dL_law_487 rfl ?_
    exact (wp_n H).elim
noncomputable def law_5 (L : Nat) (xs : Nat → Int32) (x4 : Int32) (h : am_H) : Option am_H :=
  (f_X11_errorPosition h).bind (fun a1 => (f_X12_errorPosition h).bind (fun a2 => if a1 = a2.1 then (some a2.2) else (none)))
theorem c_law_5 {mc ms b L : Nat} {xs : Nat → Int32} {Tm : Nat → List am_v → am_H → Prop} {cs ss : Nat} {x4 : Int32} {h : am_H} (hc9 : cs + 1 ≤ mc) (hs9 : ss + 6 ≤ ms) (H : wp (law_5 L xs x4 h) (fun h9 => am_V RL cL_law 9 (some .boolean) 14 532 mc ms (am_scr b L xs) Tm (cs + 1) (ss + 6) 23 [some (.inl (.ref b)), some (am_r (.inl 1) 0), some (am_r (.inl 0) 0), some (am_r (.inl 1) 18), some (am_i (x4 + iI (6))), none, none, none, none] [] h9)) : am_V RL cL_law 9 (some .boolean) 14 532 mc ms (am_scr b L xs) Tm cs ss 489 [some (.inl (.ref b)), some (am_r (.inl 1) 0), some (am_r (.inl 0) 0), some (am_r (.inl 1) 18), some (am_i x4), none, none, none, none] [] h := by
  unfold law_5 at H
  refine rl_a1 dL_law_489 ?_
  obtain ⟨a1, e1, H⟩ := wp_b H
  refine rc_V0i dL_law_490 ml_L_131 mc_X11_errorPosition (c_X11_errorPosition e1) rfl rfl rfl (ok_X rfl) rfl rfl rfl ?_
  refine rl_a2 dL_law_493 ?_
  obtain ⟨a2, e2, H⟩ := wp_b H
  refine rc_V0i dL_law_494 ml_L_134 mc_X12_errorPosition (c_X12_errorPosition e2) rfl rfl rfl (ok_M rfl) rfl rfl rfl ?_
  refine ar_ic_eq 2109 dL_law_497 (by decide) (fun c1 => ?_) (fun c1 => ?_)
  · replace H := wp_t c1 H
    replace H := wp_s H
    refine rn_m_4 (v := x4 + iI (6)) dL_law_2109 rfl trivial rfl ?_
    refine ar_goto 23 dL_law_2112 (by decide) ?_
    exact am_V.wk (am_s (am_s (am_s (am_s (am_s (am_n (am_n (am_n (am_n am_0))))))))) (am_V.up (by omega) (by omega) hc9 hs9 H)
  · replace H := wp_f c1 H
    refine ar_iconst (iI (0)) dL_law_500 rfl ?_
    exact (wp_n H).elim
noncomputable def law_6 (L : Nat) (xs : Nat → Int32) (x4 : Int32) (h : am_H) : Option am_H :=
  if ib (x4 + (iI (1))) L then ((f_L_setting (xs ((x4 + (iI (1)))).toNatClampNeg) h).bind (fun a1 => if ib (x4 + (iI (1))) L then ((f_X12_setting (xs ((x4 + (iI (1)))).toNatClampNeg) a1.2).bind (fun a2 => (f_X12_thrown a2.2).bind (fun a3 => if a3 = a1.1 then (if a1.1 = 0 then (if ib (iI (0)) 1 then (if (lg_cmp (a2.2.2.1 (.inl 1) 18 ((iI (0))).toNatClampNeg) a2.1.toInt64) = 0 then (some a2.2) else (none)) else none) else (some a2.2)) else (none)))) else none)) else none
theorem c_law_6 {mc ms b L : Nat} {xs : Nat → Int32} {Tm : Nat → List am_v → am_H → Prop} {cs ss : Nat} {x4 : Int32} {h : am_H} (hc9 : cs + 1 ≤ mc) (hs9 : ss + 6 ≤ ms) (H : wp (law_6 L xs x4 h) (fun h9 => am_V RL cL_law 9 (some .boolean) 14 532 mc ms (am_scr b L xs) Tm (cs + 1) (ss + 6) 23 [some (.inl (.ref b)), some (am_r (.inl 1) 0), some (am_r (.inl 0) 0), some (am_r (.inl 1) 18), some (am_i (x4 + iI (6))), none, none, none, none] [] h9)) : am_V RL cL_law 9 (some .boolean) 14 532 mc ms (am_scr b L xs) Tm cs ss 502 [some (.inl (.ref b)), some (am_r (.inl 1) 0), some (am_r (.inl 0) 0), some (am_r (.inl 1) 18), some (am_i x4), none, none, none, none] [] h := by
  unfold law_6 at H
  refine rl_a1 dL_law_502 ?_
  refine ar_aloadS dL_law_503 ?_
  refine rl_i4 dL_law_504 ?_
  refine ar_iconst (iI (1)) dL_law_506 rfl ?_
  refine ar_iadd dL_law_507 ?_
  obtain ⟨b1, H⟩ := wp_g H
  refine ar_sld dL_law_508 (ib_in b1) ?_
  refine rl_a3 dL_law_509 ?_
  obtain ⟨a1, e1, H⟩ := wp_b H
  refine ar_callSW (As := [am_r (.inl 1) 0, am_i (xs ((x4 + (iI (1)))).toNatClampNeg), am_r (.inl 1) 18]) dL_law_510 ml_L_135 mc_L_setting (c_L_setting e1) rfl (ble rfl) (ble rfl) hc9 hs9 (am_ct_le rfl) (fun r h9 hq => ?_)
  obtain ⟨rfl, rfl⟩ := hq
  refine rs_i5 dL_law_513 rfl trivial ?_
  refine rl_a2 dL_law_515 ?_
  refine ar_aloadS dL_law_516 ?_
  refine rl_i4 dL_law_517 ?_
  refine ar_iconst (iI (1)) dL_law_519 rfl ?_
  refine ar_iadd dL_law_520 ?_
  obtain ⟨b2, H⟩ := wp_g H
  refine ar_sld dL_law_521 (ib_in b2) ?_
  obtain ⟨a2, e2, H⟩ := wp_b H
  refine rc_V1i dL_law_522 ml_L_137 mc_X12_setting (c_X12_setting e2) rfl rfl rfl (ok_M rfl) rfl rfl rfl ?_
  refine rs_i6 dL_law_525 rfl trivial ?_
  refine rl_a2 dL_law_527 ?_
  obtain ⟨a3, e3, H⟩ := wp_b H
  refine rc_V0i dL_law_528 ml_L_113 mc_X12_thrown (c_X12_thrown e3) rfl rfl rfl (ok_M rfl) rfl rfl rfl ?_
  refine rl_i5 dL_law_531 ?_
  refine ar_ic_eq 538 dL_law_533 (by decide) (fun c1 => ?_) (fun c1 => ?_)
  · replace H := wp_t c1 H
    refine rl_i5 dL_law_538 ?_
    refine ar_if_ne 555 dL_law_540 (by decide) (fun c2 => ?_) (fun c2 => ?_)
    · replace H := wp_f c2 H
      refine ar_goto 2109 dL_law_555 (by decide) ?_
      replace H := wp_s H
      refine rn_m_4 (v := x4 + iI (6)) dL_law_2109 rfl trivial rfl ?_
      refine ar_goto 23 dL_law_2112 (by decide) ?_
      exact am_V.wk (am_s (am_s (am_s (am_s (am_s (am_n (am_n (am_n (am_n am_0))))))))) (am_V.up (by omega) (by omega) hc9 hs9 H)
    · replace H := wp_t c2 H
      refine rl_a3 dL_law_543 ?_
      refine ar_iconst (iI (0)) dL_law_544 rfl ?_
      obtain ⟨b3, H⟩ := wp_g H
      refine ar_lald dL_law_545 rfl (ok_X rfl) (ib_in b3) ?_
      refine rl_i6 dL_law_546 ?_
      refine ar_i2l dL_law_548 ?_
      refine ar_lcmp dL_law_549 ?_
      refine ar_if_eq 555 dL_law_550 (by decide) (fun c3 => ?_) (fun c3 => ?_)
      · replace H := wp_t c3 H
        refine ar_goto 2109 dL_law_555 (by decide) ?_
        replace H := wp_s H
        refine rn_m_4 (v := x4 + iI (6)) dL_law_2109 rfl trivial rfl ?_
        refine ar_goto 23 dL_law_2112 (by decide) ?_
        exact am_V.wk (am_s (am_s (am_s (am_s (am_s (am_n (am_n (am_n (am_n am_0))))))))) (am_V.up (by omega) (by omega) hc9 hs9 H)
      · replace H := wp_f c3 H
        refine ar_iconst (iI (0)) dL_law_553 rfl ?_
        exact (wp_n H).elim
  · replace H := wp_f c1 H
    refine ar_iconst (iI (0)) dL_law_536 rfl ?_
    exact (wp_n H).elim
noncomputable def law_7 (L : Nat) (xs : Nat → Int32) (x4 : Int32) (h : am_H) : Option am_H :=
  if ib (x4 + (iI (1))) L then (if ib (x4 + (iI (2))) L then ((f_L_arc (xs ((x4 + (iI (1)))).toNatClampNeg) (xs ((x4 + (iI (2)))).toNatClampNeg) h).bind (fun a1 => if ib (x4 + (iI (1))) L then (if ib (x4 + (iI (2))) L then ((f_X12_arc (xs ((x4 + (iI (1)))).toNatClampNeg) (xs ((x4 + (iI (2)))).toNatClampNeg) a1.2).bind (fun a2 => (f_X12_thrown a2.2).bind (fun a3 => if a3 = a1.1 then (if a1.1 = 0 then (if ib (iI (0)) 1 then (if (lg_cmp (a2.2.2.1 (.inl 1) 18 ((iI (0))).toNatClampNeg) a2.1.toInt64) = 0 then (some a2.2) else (none)) else none) else (some a2.2)) else (none)))) else none) else none)) else none) else none
theorem c_law_7 {mc ms b L : Nat} {xs : Nat → Int32} {Tm : Nat → List am_v → am_H → Prop} {cs ss : Nat} {x4 : Int32} {h : am_H} (hc9 : cs + 1 ≤ mc) (hs9 : ss + 6 ≤ ms) (H : wp (law_7 L xs x4 h) (fun h9 => am_V RL cL_law 9 (some .boolean) 14 532 mc ms (am_scr b L xs) Tm (cs + 1) (ss + 6) 23 [some (.inl (.ref b)), some (am_r (.inl 1) 0), some (am_r (.inl 0) 0), some (am_r (.inl 1) 18), some (am_i (x4 + iI (6))), none, none, none, none] [] h9)) : am_V RL cL_law 9 (some .boolean) 14 532 mc ms (am_scr b L xs) Tm cs ss 558 [some (.inl (.ref b)), some (am_r (.inl 1) 0), some (am_r (.inl 0) 0), some (am_r (.inl 1) 18), some (am_i x4), none, none, none, none] [] h := by
  unfold law_7 at H
  refine rl_a1 dL_law_558 ?_
  refine ar_aloadS dL_law_559 ?_
  refine rl_i4 dL_law_560 ?_
  refine ar_iconst (iI (1)) dL_law_562 rfl ?_
  refine ar_iadd dL_law_563 ?_
  obtain ⟨b1, H⟩ := wp_g H
  refine ar_sld dL_law_564 (ib_in b1) ?_
  refine ar_aloadS dL_law_565 ?_
  refine rl_i4 dL_law_566 ?_
  refine ar_iconst (iI (2)) dL_law_568 rfl ?_
  refine ar_iadd dL_law_569 ?_
  obtain ⟨b2, H⟩ := wp_g H
  refine ar_sld dL_law_570 (ib_in b2) ?_
  refine rl_a3 dL_law_571 ?_
  obtain ⟨a1, e1, H⟩ := wp_b H
  refine ar_callSW (As := [am_r (.inl 1) 0, am_i (xs ((x4 + (iI (1)))).toNatClampNeg), am_i (xs ((x4 + (iI (2)))).toNatClampNeg), am_r (.inl 1) 18]) dL_law_572 ml_L_138 mc_L_arc (c_L_arc e1) rfl (ble rfl) (ble rfl) hc9 hs9 (am_ct_le rfl) (fun r h9 hq => ?_)
  obtain ⟨rfl, rfl⟩ := hq
  refine rs_i5 dL_law_575 rfl trivial ?_
  refine rl_a2 dL_law_577 ?_
  refine ar_aloadS dL_law_578 ?_
  refine rl_i4 dL_law_579 ?_
  refine ar_iconst (iI (1)) dL_law_581 rfl ?_
  refine ar_iadd dL_law_582 ?_
  obtain ⟨b3, H⟩ := wp_g H
  refine ar_sld dL_law_583 (ib_in b3) ?_
  refine ar_aloadS dL_law_584 ?_
  refine rl_i4 dL_law_585 ?_
  refine ar_iconst (iI (2)) dL_law_587 rfl ?_
  refine ar_iadd dL_law_588 ?_
  obtain ⟨b4, H⟩ := wp_g H
  refine ar_sld dL_law_589 (ib_in b4) ?_
  obtain ⟨a2, e2, H⟩ := wp_b H
  refine rc_V2i dL_law_590 ml_L_141 mc_X12_arc (c_X12_arc e2) rfl rfl rfl (ok_M rfl) rfl rfl rfl ?_
  refine rs_i6 dL_law_593 rfl trivial ?_
  refine rl_a2 dL_law_595 ?_
  obtain ⟨a3, e3, H⟩ := wp_b H
  refine rc_V0i dL_law_596 ml_L_113 mc_X12_thrown (c_X12_thrown e3) rfl rfl rfl (ok_M rfl) rfl rfl rfl ?_
  refine rl_i5 dL_law_599 ?_
  refine ar_ic_eq 606 dL_law_601 (by decide) (fun c1 => ?_) (fun c1 => ?_)
  · replace H := wp_t c1 H
    refine rl_i5 dL_law_606 ?_
    refine ar_if_ne 623 dL_law_608 (by decide) (fun c2 => ?_) (fun c2 => ?_)
    · replace H := wp_f c2 H
      refine ar_goto 2109 dL_law_623 (by decide) ?_
      replace H := wp_s H
      refine rn_m_4 (v := x4 + iI (6)) dL_law_2109 rfl trivial rfl ?_
      refine ar_goto 23 dL_law_2112 (by decide) ?_
      exact am_V.wk (am_s (am_s (am_s (am_s (am_s (am_n (am_n (am_n (am_n am_0))))))))) (am_V.up (by omega) (by omega) hc9 hs9 H)
    · replace H := wp_t c2 H
      refine rl_a3 dL_law_611 ?_
      refine ar_iconst (iI (0)) dL_law_612 rfl ?_
      obtain ⟨b5, H⟩ := wp_g H
      refine ar_lald dL_law_613 rfl (ok_X rfl) (ib_in b5) ?_
      refine rl_i6 dL_law_614 ?_
      refine ar_i2l dL_law_616 ?_
      refine ar_lcmp dL_law_617 ?_
      refine ar_if_eq 623 dL_law_618 (by decide) (fun c3 => ?_) (fun c3 => ?_)
      · replace H := wp_t c3 H
        refine ar_goto 2109 dL_law_623 (by decide) ?_
        replace H := wp_s H
        refine rn_m_4 (v := x4 + iI (6)) dL_law_2109 rfl trivial rfl ?_
        refine ar_goto 23 dL_law_2112 (by decide) ?_
        exact am_V.wk (am_s (am_s (am_s (am_s (am_s (am_n (am_n (am_n (am_n am_0))))))))) (am_V.up (by omega) (by omega) hc9 hs9 H)
      · replace H := wp_f c3 H
        refine ar_iconst (iI (0)) dL_law_621 rfl ?_
        exact (wp_n H).elim
  · replace H := wp_f c1 H
    refine ar_iconst (iI (0)) dL_law_604 rfl ?_
    exact (wp_n H).elim
noncomputable def law_8 (L : Nat) (xs : Nat → Int32) (x4 : Int32) (h : am_H) : Option am_H :=
  if ib (x4 + (iI (1))) L then (if ib (x4 + (iI (2))) L then ((f_L_letter (xs ((x4 + (iI (1)))).toNatClampNeg) (xs ((x4 + (iI (2)))).toNatClampNeg) h).bind (fun a1 => if ib (x4 + (iI (1))) L then (if ib (x4 + (iI (2))) L then ((f_X12_letter (xs ((x4 + (iI (1)))).toNatClampNeg) (xs ((x4 + (iI (2)))).toNatClampNeg) a1.2).bind (fun a2 => (f_X12_thrown a2.2).bind (fun a3 => if a3 = a1.1 then (if a1.1 = 0 then (if ib (iI (0)) 1 then (if (lg_cmp (a2.2.2.1 (.inl 1) 18 ((iI (0))).toNatClampNeg) a2.1.toInt64) = 0 then (some a2.2) else (none)) else none) else (some a2.2)) else (none)))) else none) else none)) else none) else none
theorem c_law_8 {mc ms b L : Nat} {xs : Nat → Int32} {Tm : Nat → List am_v → am_H → Prop} {cs ss : Nat} {x4 : Int32} {h : am_H} (hc9 : cs + 1 ≤ mc) (hs9 : ss + 6 ≤ ms) (H : wp (law_8 L xs x4 h) (fun h9 => am_V RL cL_law 9 (some .boolean) 14 532 mc ms (am_scr b L xs) Tm (cs + 1) (ss + 6) 23 [some (.inl (.ref b)), some (am_r (.inl 1) 0), some (am_r (.inl 0) 0), some (am_r (.inl 1) 18), some (am_i (x4 + iI (6))), none, none, none, none] [] h9)) : am_V RL cL_law 9 (some .boolean) 14 532 mc ms (am_scr b L xs) Tm cs ss 626 [some (.inl (.ref b)), some (am_r (.inl 1) 0), some (am_r (.inl 0) 0), some (am_r (.inl 1) 18), some (am_i x4), none, none, none, none] [] h := by
  unfold law_8 at H
  refine rl_a1 dL_law_626 ?_
  refine ar_aloadS dL_law_627 ?_
  refine rl_i4 dL_law_628 ?_
  refine ar_iconst (iI (1)) dL_law_630 rfl ?_
  refine ar_iadd dL_law_631 ?_
  obtain ⟨b1, H⟩ := wp_g H
  refine ar_sld dL_law_632 (ib_in b1) ?_
  refine ar_aloadS dL_law_633 ?_
  refine rl_i4 dL_law_634 ?_
  refine ar_iconst (iI (2)) dL_law_636 rfl ?_
  refine ar_iadd dL_law_637 ?_
  obtain ⟨b2, H⟩ := wp_g H
  refine ar_sld dL_law_638 (ib_in b2) ?_
  refine rl_a3 dL_law_639 ?_
  obtain ⟨a1, e1, H⟩ := wp_b H
  refine ar_callSW (As := [am_r (.inl 1) 0, am_i (xs ((x4 + (iI (1)))).toNatClampNeg), am_i (xs ((x4 + (iI (2)))).toNatClampNeg), am_r (.inl 1) 18]) dL_law_640 ml_L_142 mc_L_letter (c_L_letter e1) rfl (ble rfl) (ble rfl) hc9 hs9 (am_ct_le rfl) (fun r h9 hq => ?_)
  obtain ⟨rfl, rfl⟩ := hq
  refine rs_i5 dL_law_643 rfl trivial ?_
  refine rl_a2 dL_law_645 ?_
  refine ar_aloadS dL_law_646 ?_
  refine rl_i4 dL_law_647 ?_
  refine ar_iconst (iI (1)) dL_law_649 rfl ?_
  refine ar_iadd dL_law_650 ?_
  obtain ⟨b3, H⟩ := wp_g H
  refine ar_sld dL_law_651 (ib_in b3) ?_
  refine ar_aloadS dL_law_652 ?_
  refine rl_i4 dL_law_653 ?_
  refine ar_iconst (iI (2)) dL_law_655 rfl ?_
  refine ar_iadd dL_law_656 ?_
  obtain ⟨b4, H⟩ := wp_g H
  refine ar_sld dL_law_657 (ib_in b4) ?_
  obtain ⟨a2, e2, H⟩ := wp_b H
  refine rc_V2i dL_law_658 ml_L_144 mc_X12_letter (c_X12_letter e2) rfl rfl rfl (ok_M rfl) rfl rfl rfl ?_
  refine rs_i6 dL_law_661 rfl trivial ?_
  refine rl_a2 dL_law_663 ?_
  obtain ⟨a3, e3, H⟩ := wp_b H
  refine rc_V0i dL_law_664 ml_L_113 mc_X12_thrown (c_X12_thrown e3) rfl rfl rfl (ok_M rfl) rfl rfl rfl ?_
  refine rl_i5 dL_law_667 ?_
  refine ar_ic_eq 674 dL_law_669 (by decide) (fun c1 => ?_) (fun c1 => ?_)
  · replace H := wp_t c1 H
    refine rl_i5 dL_law_674 ?_
    refine ar_if_ne 691 dL_law_676 (by decide) (fun c2 => ?_) (fun c2 => ?_)
    · replace H := wp_f c2 H
      refine ar_goto 2109 dL_law_691 (by decide) ?_
      replace H := wp_s H
      refine rn_m_4 (v := x4 + iI (6)) dL_law_2109 rfl trivial rfl ?_
      refine ar_goto 23 dL_law_2112 (by decide) ?_
      exact am_V.wk (am_s (am_s (am_s (am_s (am_s (am_n (am_n (am_n (am_n am_0))))))))) (am_V.up (by omega) (by omega) hc9 hs9 H)
    · replace H := wp_t c2 H
      refine rl_a3 dL_law_679 ?_
      refine ar_iconst (iI (0)) dL_law_680 rfl ?_
      obtain ⟨b5, H⟩ := wp_g H
      refine ar_lald dL_law_681 rfl (ok_X rfl) (ib_in b5) ?_
      refine rl_i6 dL_law_682 ?_
      refine ar_i2l dL_law_684 ?_
      refine ar_lcmp dL_law_685 ?_
      refine ar_if_eq 691 dL_law_686 (by decide) (fun c3 => ?_) (fun c3 => ?_)
      · replace H := wp_t c3 H
        refine ar_goto 2109 dL_law_691 (by decide) ?_
        replace H := wp_s H
        refine rn_m_4 (v := x4 + iI (6)) dL_law_2109 rfl trivial rfl ?_
        refine ar_goto 23 dL_law_2112 (by decide) ?_
        exact am_V.wk (am_s (am_s (am_s (am_s (am_s (am_n (am_n (am_n (am_n am_0))))))))) (am_V.up (by omega) (by omega) hc9 hs9 H)
      · replace H := wp_f c3 H
        refine ar_iconst (iI (0)) dL_law_689 rfl ?_
        exact (wp_n H).elim
  · replace H := wp_f c1 H
    refine ar_iconst (iI (0)) dL_law_672 rfl ?_
    exact (wp_n H).elim
noncomputable def law_9 (L : Nat) (xs : Nat → Int32) (x4 : Int32) (h : am_H) : Option am_H :=
  if ib (x4 + (iI (1))) L then (if ib (x4 + (iI (2))) L then ((f_L_scratch (xs ((x4 + (iI (1)))).toNatClampNeg) (xs ((x4 + (iI (2)))).toNatClampNeg) h).bind (fun a1 => if ib (x4 + (iI (1))) L then (if ib (x4 + (iI (2))) L then ((f_X12_scratch (xs ((x4 + (iI (1)))).toNatClampNeg) (xs ((x4 + (iI (2)))).toNatClampNeg) a1.2).bind (fun a2 => (f_X12_thrown a2.2).bind (fun a3 => if a3 = a1.1 then (if a1.1 = 0 then (if ib (iI (0)) 1 then (if (lg_cmp (a2.2.2.1 (.inl 1) 18 ((iI (0))).toNatClampNeg) a2.1.toInt64) = 0 then (some a2.2) else (none)) else none) else (some a2.2)) else (none)))) else none) else none)) else none) else none
theorem c_law_9 {mc ms b L : Nat} {xs : Nat → Int32} {Tm : Nat → List am_v → am_H → Prop} {cs ss : Nat} {x4 : Int32} {h : am_H} (hc9 : cs + 1 ≤ mc) (hs9 : ss + 6 ≤ ms) (H : wp (law_9 L xs x4 h) (fun h9 => am_V RL cL_law 9 (some .boolean) 14 532 mc ms (am_scr b L xs) Tm (cs + 1) (ss + 6) 23 [some (.inl (.ref b)), some (am_r (.inl 1) 0), some (am_r (.inl 0) 0), some (am_r (.inl 1) 18), some (am_i (x4 + iI (6))), none, none, none, none] [] h9)) : am_V RL cL_law 9 (some .boolean) 14 532 mc ms (am_scr b L xs) Tm cs ss 694 [some (.inl (.ref b)), some (am_r (.inl 1) 0), some (am_r (.inl 0) 0), some (am_r (.inl 1) 18), some (am_i x4), none, none, none, none] [] h := by
  unfold law_9 at H
  refine rl_a1 dL_law_694 ?_
  refine ar_aloadS dL_law_695 ?_
  refine rl_i4 dL_law_696 ?_
  refine ar_iconst (iI (1)) dL_law_698 rfl ?_
  refine ar_iadd dL_law_699 ?_
  obtain ⟨b1, H⟩ := wp_g H
  refine ar_sld dL_law_700 (ib_in b1) ?_
  refine ar_aloadS dL_law_701 ?_
  refine rl_i4 dL_law_702 ?_
  refine ar_iconst (iI (2)) dL_law_704 rfl ?_
  refine ar_iadd dL_law_705 ?_
  obtain ⟨b2, H⟩ := wp_g H
  refine ar_sld dL_law_706 (ib_in b2) ?_
  refine rl_a3 dL_law_707 ?_
  obtain ⟨a1, e1, H⟩ := wp_b H
  refine ar_callSW (As := [am_r (.inl 1) 0, am_i (xs ((x4 + (iI (1)))).toNatClampNeg), am_i (xs ((x4 + (iI (2)))).toNatClampNeg), am_r (.inl 1) 18]) dL_law_708 ml_L_145 mc_L_scratch (c_L_scratch e1) rfl (ble rfl) (ble rfl) hc9 hs9 (am_ct_le rfl) (fun r h9 hq => ?_)
  obtain ⟨rfl, rfl⟩ := hq
  refine rs_i5 dL_law_711 rfl trivial ?_
  refine rl_a2 dL_law_713 ?_
  refine ar_aloadS dL_law_714 ?_
  refine rl_i4 dL_law_715 ?_
  refine ar_iconst (iI (1)) dL_law_717 rfl ?_
  refine ar_iadd dL_law_718 ?_
  obtain ⟨b3, H⟩ := wp_g H
  refine ar_sld dL_law_719 (ib_in b3) ?_
  refine ar_aloadS dL_law_720 ?_
  refine rl_i4 dL_law_721 ?_
  refine ar_iconst (iI (2)) dL_law_723 rfl ?_
  refine ar_iadd dL_law_724 ?_
  obtain ⟨b4, H⟩ := wp_g H
  refine ar_sld dL_law_725 (ib_in b4) ?_
  obtain ⟨a2, e2, H⟩ := wp_b H
  refine rc_V2i dL_law_726 ml_L_147 mc_X12_scratch (c_X12_scratch e2) rfl rfl rfl (ok_M rfl) rfl rfl rfl ?_
  refine rs_i6 dL_law_729 rfl trivial ?_
  refine rl_a2 dL_law_731 ?_
  obtain ⟨a3, e3, H⟩ := wp_b H
  refine rc_V0i dL_law_732 ml_L_113 mc_X12_thrown (c_X12_thrown e3) rfl rfl rfl (ok_M rfl) rfl rfl rfl ?_
  refine rl_i5 dL_law_735 ?_
  refine ar_ic_eq 742 dL_law_737 (by decide) (fun c1 => ?_) (fun c1 => ?_)
  · replace H := wp_t c1 H
    refine rl_i5 dL_law_742 ?_
    refine ar_if_ne 759 dL_law_744 (by decide) (fun c2 => ?_) (fun c2 => ?_)
    · replace H := wp_f c2 H
      refine ar_goto 2109 dL_law_759 (by decide) ?_
      replace H := wp_s H
      refine rn_m_4 (v := x4 + iI (6)) dL_law_2109 rfl trivial rfl ?_
      refine ar_goto 23 dL_law_2112 (by decide) ?_
      exact am_V.wk (am_s (am_s (am_s (am_s (am_s (am_n (am_n (am_n (am_n am_0))))))))) (am_V.up (by omega) (by omega) hc9 hs9 H)
    · replace H := wp_t c2 H
      refine rl_a3 dL_law_747 ?_
      refine ar_iconst (iI (0)) dL_law_748 rfl ?_
      obtain ⟨b5, H⟩ := wp_g H
      refine ar_lald dL_law_749 rfl (ok_X rfl) (ib_in b5) ?_
      refine rl_i6 dL_law_750 ?_
      refine ar_i2l dL_law_752 ?_
      refine ar_lcmp dL_law_753 ?_
      refine ar_if_eq 759 dL_law_754 (by decide) (fun c3 => ?_) (fun c3 => ?_)
      · replace H := wp_t c3 H
        refine ar_goto 2109 dL_law_759 (by decide) ?_
        replace H := wp_s H
        refine rn_m_4 (v := x4 + iI (6)) dL_law_2109 rfl trivial rfl ?_
        refine ar_goto 23 dL_law_2112 (by decide) ?_
        exact am_V.wk (am_s (am_s (am_s (am_s (am_s (am_n (am_n (am_n (am_n am_0))))))))) (am_V.up (by omega) (by omega) hc9 hs9 H)
      · replace H := wp_f c3 H
        refine ar_iconst (iI (0)) dL_law_757 rfl ?_
        exact (wp_n H).elim
  · replace H := wp_f c1 H
    refine ar_iconst (iI (0)) dL_law_740 rfl ?_
    exact (wp_n H).elim
noncomputable def law_10 (L : Nat) (xs : Nat → Int32) (x4 : Int32) (h : am_H) : Option am_H :=
  if ib (x4 + (iI (1))) L then (if ib (x4 + (iI (2))) L then ((f_L_flourishLetter (xs ((x4 + (iI (1)))).toNatClampNeg) (xs ((x4 + (iI (2)))).toNatClampNeg) h).bind (fun a1 => if ib (x4 + (iI (1))) L then (if ib (x4 + (iI (2))) L then ((f_X12_flourishLetter (xs ((x4 + (iI (1)))).toNatClampNeg) (xs ((x4 + (iI (2)))).toNatClampNeg) a1.2).bind (fun a2 => (f_X12_thrown a2.2).bind (fun a3 => if a3 = a1.1 then (if a1.1 = 0 then (if ib (iI (0)) 1 then (if (lg_cmp (a2.2.2.1 (.inl 1) 18 ((iI (0))).toNatClampNeg) a2.1.toInt64) = 0 then (some a2.2) else (none)) else none) else (some a2.2)) else (none)))) else none) else none)) else none) else none
theorem c_law_10 {mc ms b L : Nat} {xs : Nat → Int32} {Tm : Nat → List am_v → am_H → Prop} {cs ss : Nat} {x4 : Int32} {h : am_H} (hc9 : cs + 1 ≤ mc) (hs9 : ss + 6 ≤ ms) (H : wp (law_10 L xs x4 h) (fun h9 => am_V RL cL_law 9 (some .boolean) 14 532 mc ms (am_scr b L xs) Tm (cs + 1) (ss + 6) 23 [some (.inl (.ref b)), some (am_r (.inl 1) 0), some (am_r (.inl 0) 0), some (am_r (.inl 1) 18), some (am_i (x4 + iI (6))), none, none, none, none] [] h9)) : am_V RL cL_law 9 (some .boolean) 14 532 mc ms (am_scr b L xs) Tm cs ss 762 [some (.inl (.ref b)), some (am_r (.inl 1) 0), some (am_r (.inl 0) 0), some (am_r (.inl 1) 18), some (am_i x4), none, none, none, none] [] h := by
  unfold law_10 at H
  refine rl_a1 dL_law_762 ?_
  refine ar_aloadS dL_law_763 ?_
  refine rl_i4 dL_law_764 ?_
  refine ar_iconst (iI (1)) dL_law_766 rfl ?_
  refine ar_iadd dL_law_767 ?_
  obtain ⟨b1, H⟩ := wp_g H
  refine ar_sld dL_law_768 (ib_in b1) ?_
  refine ar_aloadS dL_law_769 ?_
  refine rl_i4 dL_law_770 ?_
  refine ar_iconst (iI (2)) dL_law_772 rfl ?_
  refine ar_iadd dL_law_773 ?_
  obtain ⟨b2, H⟩ := wp_g H
  refine ar_sld dL_law_774 (ib_in b2) ?_
  refine rl_a3 dL_law_775 ?_
  obtain ⟨a1, e1, H⟩ := wp_b H
  refine ar_callSW (As := [am_r (.inl 1) 0, am_i (xs ((x4 + (iI (1)))).toNatClampNeg), am_i (xs ((x4 + (iI (2)))).toNatClampNeg), am_r (.inl 1) 18]) dL_law_776 ml_L_148 mc_L_flourishLetter (c_L_flourishLetter e1) rfl (ble rfl) (ble rfl) hc9 hs9 (am_ct_le rfl) (fun r h9 hq => ?_)
  obtain ⟨rfl, rfl⟩ := hq
  refine rs_i5 dL_law_779 rfl trivial ?_
  refine rl_a2 dL_law_781 ?_
  refine ar_aloadS dL_law_782 ?_
  refine rl_i4 dL_law_783 ?_
  refine ar_iconst (iI (1)) dL_law_785 rfl ?_
  refine ar_iadd dL_law_786 ?_
  obtain ⟨b3, H⟩ := wp_g H
  refine ar_sld dL_law_787 (ib_in b3) ?_
  refine ar_aloadS dL_law_788 ?_
  refine rl_i4 dL_law_789 ?_
  refine ar_iconst (iI (2)) dL_law_791 rfl ?_
  refine ar_iadd dL_law_792 ?_
  obtain ⟨b4, H⟩ := wp_g H
  refine ar_sld dL_law_793 (ib_in b4) ?_
  obtain ⟨a2, e2, H⟩ := wp_b H
  refine rc_V2i dL_law_794 ml_L_150 mc_X12_flourishLetter (c_X12_flourishLetter e2) rfl rfl rfl (ok_M rfl) rfl rfl rfl ?_
  refine rs_i6 dL_law_797 rfl trivial ?_
  refine rl_a2 dL_law_799 ?_
  obtain ⟨a3, e3, H⟩ := wp_b H
  refine rc_V0i dL_law_800 ml_L_113 mc_X12_thrown (c_X12_thrown e3) rfl rfl rfl (ok_M rfl) rfl rfl rfl ?_
  refine rl_i5 dL_law_803 ?_
  refine ar_ic_eq 810 dL_law_805 (by decide) (fun c1 => ?_) (fun c1 => ?_)
  · replace H := wp_t c1 H
    refine rl_i5 dL_law_810 ?_
    refine ar_if_ne 827 dL_law_812 (by decide) (fun c2 => ?_) (fun c2 => ?_)
    · replace H := wp_f c2 H
      refine ar_goto 2109 dL_law_827 (by decide) ?_
      replace H := wp_s H
      refine rn_m_4 (v := x4 + iI (6)) dL_law_2109 rfl trivial rfl ?_
      refine ar_goto 23 dL_law_2112 (by decide) ?_
      exact am_V.wk (am_s (am_s (am_s (am_s (am_s (am_n (am_n (am_n (am_n am_0))))))))) (am_V.up (by omega) (by omega) hc9 hs9 H)
    · replace H := wp_t c2 H
      refine rl_a3 dL_law_815 ?_
      refine ar_iconst (iI (0)) dL_law_816 rfl ?_
      obtain ⟨b5, H⟩ := wp_g H
      refine ar_lald dL_law_817 rfl (ok_X rfl) (ib_in b5) ?_
      refine rl_i6 dL_law_818 ?_
      refine ar_i2l dL_law_820 ?_
      refine ar_lcmp dL_law_821 ?_
      refine ar_if_eq 827 dL_law_822 (by decide) (fun c3 => ?_) (fun c3 => ?_)
      · replace H := wp_t c3 H
        refine ar_goto 2109 dL_law_827 (by decide) ?_
        replace H := wp_s H
        refine rn_m_4 (v := x4 + iI (6)) dL_law_2109 rfl trivial rfl ?_
        refine ar_goto 23 dL_law_2112 (by decide) ?_
        exact am_V.wk (am_s (am_s (am_s (am_s (am_s (am_n (am_n (am_n (am_n am_0))))))))) (am_V.up (by omega) (by omega) hc9 hs9 H)
      · replace H := wp_f c3 H
        refine ar_iconst (iI (0)) dL_law_825 rfl ?_
        exact (wp_n H).elim
  · replace H := wp_f c1 H
    refine ar_iconst (iI (0)) dL_law_808 rfl ?_
    exact (wp_n H).elim
noncomputable def law_11 (L : Nat) (xs : Nat → Int32) (x4 : Int32) (h : am_H) : Option am_H :=
  if ib (x4 + (iI (1))) L then ((f_L_partsAt (xs ((x4 + (iI (1)))).toNatClampNeg) h).bind (fun a1 => if ib (x4 + (iI (1))) L then ((f_X12_partsAt (xs ((x4 + (iI (1)))).toNatClampNeg) a1.2).bind (fun a2 => (f_X12_thrown a2.2).bind (fun a3 => if a3 = a1.1 then (if a1.1 = 0 then (if ib (iI (0)) 1 then (if (lg_cmp (a2.2.2.1 (.inl 1) 18 ((iI (0))).toNatClampNeg) a2.1.toInt64) = 0 then (some a2.2) else (none)) else none) else (some a2.2)) else (none)))) else none)) else none
theorem c_law_11 {mc ms b L : Nat} {xs : Nat → Int32} {Tm : Nat → List am_v → am_H → Prop} {cs ss : Nat} {x4 : Int32} {h : am_H} (hc9 : cs + 1 ≤ mc) (hs9 : ss + 6 ≤ ms) (H : wp (law_11 L xs x4 h) (fun h9 => am_V RL cL_law 9 (some .boolean) 14 532 mc ms (am_scr b L xs) Tm (cs + 1) (ss + 6) 23 [some (.inl (.ref b)), some (am_r (.inl 1) 0), some (am_r (.inl 0) 0), some (am_r (.inl 1) 18), some (am_i (x4 + iI (6))), none, none, none, none] [] h9)) : am_V RL cL_law 9 (some .boolean) 14 532 mc ms (am_scr b L xs) Tm cs ss 830 [some (.inl (.ref b)), some (am_r (.inl 1) 0), some (am_r (.inl 0) 0), some (am_r (.inl 1) 18), some (am_i x4), none, none, none, none] [] h := by
  unfold law_11 at H
  refine rl_a1 dL_law_830 ?_
  refine ar_aloadS dL_law_831 ?_
  refine rl_i4 dL_law_832 ?_
  refine ar_iconst (iI (1)) dL_law_834 rfl ?_
  refine ar_iadd dL_law_835 ?_
  obtain ⟨b1, H⟩ := wp_g H
  refine ar_sld dL_law_836 (ib_in b1) ?_
  refine rl_a3 dL_law_837 ?_
  obtain ⟨a1, e1, H⟩ := wp_b H
  refine ar_callSW (As := [am_r (.inl 1) 0, am_i (xs ((x4 + (iI (1)))).toNatClampNeg), am_r (.inl 1) 18]) dL_law_838 ml_L_151 mc_L_partsAt (c_L_partsAt e1) rfl (ble rfl) (ble rfl) hc9 hs9 (am_ct_le rfl) (fun r h9 hq => ?_)
  obtain ⟨rfl, rfl⟩ := hq
  refine rs_i5 dL_law_841 rfl trivial ?_
  refine rl_a2 dL_law_843 ?_
  refine ar_aloadS dL_law_844 ?_
  refine rl_i4 dL_law_845 ?_
  refine ar_iconst (iI (1)) dL_law_847 rfl ?_
  refine ar_iadd dL_law_848 ?_
  obtain ⟨b2, H⟩ := wp_g H
  refine ar_sld dL_law_849 (ib_in b2) ?_
  obtain ⟨a2, e2, H⟩ := wp_b H
  refine rc_V1i dL_law_850 ml_L_153 mc_X12_partsAt (c_X12_partsAt e2) rfl rfl rfl (ok_M rfl) rfl rfl rfl ?_
  refine rs_i6 dL_law_853 rfl trivial ?_
  refine rl_a2 dL_law_855 ?_
  obtain ⟨a3, e3, H⟩ := wp_b H
  refine rc_V0i dL_law_856 ml_L_113 mc_X12_thrown (c_X12_thrown e3) rfl rfl rfl (ok_M rfl) rfl rfl rfl ?_
  refine rl_i5 dL_law_859 ?_
  refine ar_ic_eq 866 dL_law_861 (by decide) (fun c1 => ?_) (fun c1 => ?_)
  · replace H := wp_t c1 H
    refine rl_i5 dL_law_866 ?_
    refine ar_if_ne 883 dL_law_868 (by decide) (fun c2 => ?_) (fun c2 => ?_)
    · replace H := wp_f c2 H
      refine ar_goto 2109 dL_law_883 (by decide) ?_
      replace H := wp_s H
      refine rn_m_4 (v := x4 + iI (6)) dL_law_2109 rfl trivial rfl ?_
      refine ar_goto 23 dL_law_2112 (by decide) ?_
      exact am_V.wk (am_s (am_s (am_s (am_s (am_s (am_n (am_n (am_n (am_n am_0))))))))) (am_V.up (by omega) (by omega) hc9 hs9 H)
    · replace H := wp_t c2 H
      refine rl_a3 dL_law_871 ?_
      refine ar_iconst (iI (0)) dL_law_872 rfl ?_
      obtain ⟨b3, H⟩ := wp_g H
      refine ar_lald dL_law_873 rfl (ok_X rfl) (ib_in b3) ?_
      refine rl_i6 dL_law_874 ?_
      refine ar_i2l dL_law_876 ?_
      refine ar_lcmp dL_law_877 ?_
      refine ar_if_eq 883 dL_law_878 (by decide) (fun c3 => ?_) (fun c3 => ?_)
      · replace H := wp_t c3 H
        refine ar_goto 2109 dL_law_883 (by decide) ?_
        replace H := wp_s H
        refine rn_m_4 (v := x4 + iI (6)) dL_law_2109 rfl trivial rfl ?_
        refine ar_goto 23 dL_law_2112 (by decide) ?_
        exact am_V.wk (am_s (am_s (am_s (am_s (am_s (am_n (am_n (am_n (am_n am_0))))))))) (am_V.up (by omega) (by omega) hc9 hs9 H)
      · replace H := wp_f c3 H
        refine ar_iconst (iI (0)) dL_law_881 rfl ?_
        exact (wp_n H).elim
  · replace H := wp_f c1 H
    refine ar_iconst (iI (0)) dL_law_864 rfl ?_
    exact (wp_n H).elim
noncomputable def law_12 (L : Nat) (xs : Nat → Int32) (x4 : Int32) (h : am_H) : Option am_H :=
  if ib (x4 + (iI (1))) L then ((f_L_heading (xs ((x4 + (iI (1)))).toNatClampNeg) h).bind (fun a1 => if ib (x4 + (iI (1))) L then ((f_X12_heading (xs ((x4 + (iI (1)))).toNatClampNeg) a1.2).bind (fun a2 => (f_X12_thrown a2.2).bind (fun a3 => if a3 = a1.1 then (if a1.1 = 0 then (if ib (iI (0)) 1 then (if (lg_cmp (a2.2.2.1 (.inl 1) 18 ((iI (0))).toNatClampNeg) a2.1.toInt64) = 0 then (some a2.2) else (none)) else none) else (some a2.2)) else (none)))) else none)) else none
theorem c_law_12 {mc ms b L : Nat} {xs : Nat → Int32} {Tm : Nat → List am_v → am_H → Prop} {cs ss : Nat} {x4 : Int32} {h : am_H} (hc9 : cs + 1 ≤ mc) (hs9 : ss + 6 ≤ ms) (H : wp (law_12 L xs x4 h) (fun h9 => am_V RL cL_law 9 (some .boolean) 14 532 mc ms (am_scr b L xs) Tm (cs + 1) (ss + 6) 23 [some (.inl (.ref b)), some (am_r (.inl 1) 0), some (am_r (.inl 0) 0), some (am_r (.inl 1) 18), some (am_i (x4 + iI (6))), none, none, none, none] [] h9)) : am_V RL cL_law 9 (some .boolean) 14 532 mc ms (am_scr b L xs) Tm cs ss 886 [some (.inl (.ref b)), some (am_r (.inl 1) 0), some (am_r (.inl 0) 0), some (am_r (.inl 1) 18), some (am_i x4), none, none, none, none] [] h := by
  unfold law_12 at H
  refine rl_a1 dL_law_886 ?_
  refine ar_aloadS dL_law_887 ?_
  refine rl_i4 dL_law_888 ?_
  refine ar_iconst (iI (1)) dL_law_890 rfl ?_
  refine ar_iadd dL_law_891 ?_
  obtain ⟨b1, H⟩ := wp_g H
  refine ar_sld dL_law_892 (ib_in b1) ?_
  refine rl_a3 dL_law_893 ?_
  obtain ⟨a1, e1, H⟩ := wp_b H
  refine ar_callSW (As := [am_r (.inl 1) 0, am_i (xs ((x4 + (iI (1)))).toNatClampNeg), am_r (.inl 1) 18]) dL_law_894 ml_L_154 mc_L_heading (c_L_heading e1) rfl (ble rfl) (ble rfl) hc9 hs9 (am_ct_le rfl) (fun r h9 hq => ?_)
  obtain ⟨rfl, rfl⟩ := hq
  refine rs_i5 dL_law_897 rfl trivial ?_
  refine rl_a2 dL_law_899 ?_
  refine ar_aloadS dL_law_900 ?_
  refine rl_i4 dL_law_901 ?_
  refine ar_iconst (iI (1)) dL_law_903 rfl ?_
  refine ar_iadd dL_law_904 ?_
  obtain ⟨b2, H⟩ := wp_g H
  refine ar_sld dL_law_905 (ib_in b2) ?_
  obtain ⟨a2, e2, H⟩ := wp_b H
  refine rc_V1i dL_law_906 ml_L_156 mc_X12_heading (c_X12_heading e2) rfl rfl rfl (ok_M rfl) rfl rfl rfl ?_
  refine rs_i6 dL_law_909 rfl trivial ?_
  refine rl_a2 dL_law_911 ?_
  obtain ⟨a3, e3, H⟩ := wp_b H
  refine rc_V0i dL_law_912 ml_L_113 mc_X12_thrown (c_X12_thrown e3) rfl rfl rfl (ok_M rfl) rfl rfl rfl ?_
  refine rl_i5 dL_law_915 ?_
  refine ar_ic_eq 922 dL_law_917 (by decide) (fun c1 => ?_) (fun c1 => ?_)
  · replace H := wp_t c1 H
    refine rl_i5 dL_law_922 ?_
    refine ar_if_ne 939 dL_law_924 (by decide) (fun c2 => ?_) (fun c2 => ?_)
    · replace H := wp_f c2 H
      refine ar_goto 2109 dL_law_939 (by decide) ?_
      replace H := wp_s H
      refine rn_m_4 (v := x4 + iI (6)) dL_law_2109 rfl trivial rfl ?_
      refine ar_goto 23 dL_law_2112 (by decide) ?_
      exact am_V.wk (am_s (am_s (am_s (am_s (am_s (am_n (am_n (am_n (am_n am_0))))))))) (am_V.up (by omega) (by omega) hc9 hs9 H)
    · replace H := wp_t c2 H
      refine rl_a3 dL_law_927 ?_
      refine ar_iconst (iI (0)) dL_law_928 rfl ?_
      obtain ⟨b3, H⟩ := wp_g H
      refine ar_lald dL_law_929 rfl (ok_X rfl) (ib_in b3) ?_
      refine rl_i6 dL_law_930 ?_
      refine ar_i2l dL_law_932 ?_
      refine ar_lcmp dL_law_933 ?_
      refine ar_if_eq 939 dL_law_934 (by decide) (fun c3 => ?_) (fun c3 => ?_)
      · replace H := wp_t c3 H
        refine ar_goto 2109 dL_law_939 (by decide) ?_
        replace H := wp_s H
        refine rn_m_4 (v := x4 + iI (6)) dL_law_2109 rfl trivial rfl ?_
        refine ar_goto 23 dL_law_2112 (by decide) ?_
        exact am_V.wk (am_s (am_s (am_s (am_s (am_s (am_n (am_n (am_n (am_n am_0))))))))) (am_V.up (by omega) (by omega) hc9 hs9 H)
      · replace H := wp_f c3 H
        refine ar_iconst (iI (0)) dL_law_937 rfl ?_
        exact (wp_n H).elim
  · replace H := wp_f c1 H
    refine ar_iconst (iI (0)) dL_law_920 rfl ?_
    exact (wp_n H).elim
noncomputable def law_13 (L : Nat) (xs : Nat → Int32) (x4 : Int32) (h : am_H) : Option am_H :=
  if ib (x4 + (iI (1))) L then ((f_L_turnAt (xs ((x4 + (iI (1)))).toNatClampNeg) h).bind (fun a1 => if ib (x4 + (iI (1))) L then ((f_X12_turnAt (xs ((x4 + (iI (1)))).toNatClampNeg) a1.2).bind (fun a2 => (f_X12_thrown a2.2).bind (fun a3 => if a3 = a1.1 then (if a1.1 = 0 then (if ib (iI (0)) 1 then (if (lg_cmp (a2.2.2.1 (.inl 1) 18 ((iI (0))).toNatClampNeg) a2.1.toInt64) = 0 then (some a2.2) else (none)) else none) else (some a2.2)) else (none)))) else none)) else none
theorem c_law_13 {mc ms b L : Nat} {xs : Nat → Int32} {Tm : Nat → List am_v → am_H → Prop} {cs ss : Nat} {x4 : Int32} {h : am_H} (hc9 : cs + 1 ≤ mc) (hs9 : ss + 6 ≤ ms) (H : wp (law_13 L xs x4 h) (fun h9 => am_V RL cL_law 9 (some .boolean) 14 532 mc ms (am_scr b L xs) Tm (cs + 1) (ss + 6) 23 [some (.inl (.ref b)), some (am_r (.inl 1) 0), some (am_r (.inl 0) 0), some (am_r (.inl 1) 18), some (am_i (x4 + iI (6))), none, none, none, none] [] h9)) : am_V RL cL_law 9 (some .boolean) 14 532 mc ms (am_scr b L xs) Tm cs ss 942 [some (.inl (.ref b)), some (am_r (.inl 1) 0), some (am_r (.inl 0) 0), some (am_r (.inl 1) 18), some (am_i x4), none, none, none, none] [] h := by
  unfold law_13 at H
  refine rl_a1 dL_law_942 ?_
  refine ar_aloadS dL_law_943 ?_
  refine rl_i4 dL_law_944 ?_
  refine ar_iconst (iI (1)) dL_law_946 rfl ?_
  refine ar_iadd dL_law_947 ?_
  obtain ⟨b1, H⟩ := wp_g H
  refine ar_sld dL_law_948 (ib_in b1) ?_
  refine rl_a3 dL_law_949 ?_
  obtain ⟨a1, e1, H⟩ := wp_b H
  refine ar_callSW (As := [am_r (.inl 1) 0, am_i (xs ((x4 + (iI (1)))).toNatClampNeg), am_r (.inl 1) 18]) dL_law_950 ml_L_157 mc_L_turnAt (c_L_turnAt e1) rfl (ble rfl) (ble rfl) hc9 hs9 (am_ct_le rfl) (fun r h9 hq => ?_)
  obtain ⟨rfl, rfl⟩ := hq
  refine rs_i5 dL_law_953 rfl trivial ?_
  refine rl_a2 dL_law_955 ?_
  refine ar_aloadS dL_law_956 ?_
  refine rl_i4 dL_law_957 ?_
  refine ar_iconst (iI (1)) dL_law_959 rfl ?_
  refine ar_iadd dL_law_960 ?_
  obtain ⟨b2, H⟩ := wp_g H
  refine ar_sld dL_law_961 (ib_in b2) ?_
  obtain ⟨a2, e2, H⟩ := wp_b H
  refine rc_V1i dL_law_962 ml_L_159 mc_X12_turnAt (c_X12_turnAt e2) rfl rfl rfl (ok_M rfl) rfl rfl rfl ?_
  refine rs_i6 dL_law_965 rfl trivial ?_
  refine rl_a2 dL_law_967 ?_
  obtain ⟨a3, e3, H⟩ := wp_b H
  refine rc_V0i dL_law_968 ml_L_113 mc_X12_thrown (c_X12_thrown e3) rfl rfl rfl (ok_M rfl) rfl rfl rfl ?_
  refine rl_i5 dL_law_971 ?_
  refine ar_ic_eq 978 dL_law_973 (by decide) (fun c1 => ?_) (fun c1 => ?_)
  · replace H := wp_t c1 H
    refine rl_i5 dL_law_978 ?_
    refine ar_if_ne 995 dL_law_980 (by decide) (fun c2 => ?_) (fun c2 => ?_)
    · replace H := wp_f c2 H
      refine ar_goto 2109 dL_law_995 (by decide) ?_
      replace H := wp_s H
      refine rn_m_4 (v := x4 + iI (6)) dL_law_2109 rfl trivial rfl ?_
      refine ar_goto 23 dL_law_2112 (by decide) ?_
      exact am_V.wk (am_s (am_s (am_s (am_s (am_s (am_n (am_n (am_n (am_n am_0))))))))) (am_V.up (by omega) (by omega) hc9 hs9 H)
    · replace H := wp_t c2 H
      refine rl_a3 dL_law_983 ?_
      refine ar_iconst (iI (0)) dL_law_984 rfl ?_
      obtain ⟨b3, H⟩ := wp_g H
      refine ar_lald dL_law_985 rfl (ok_X rfl) (ib_in b3) ?_
      refine rl_i6 dL_law_986 ?_
      refine ar_i2l dL_law_988 ?_
      refine ar_lcmp dL_law_989 ?_
      refine ar_if_eq 995 dL_law_990 (by decide) (fun c3 => ?_) (fun c3 => ?_)
      · replace H := wp_t c3 H
        refine ar_goto 2109 dL_law_995 (by decide) ?_
        replace H := wp_s H
        refine rn_m_4 (v := x4 + iI (6)) dL_law_2109 rfl trivial rfl ?_
        refine ar_goto 23 dL_law_2112 (by decide) ?_
        exact am_V.wk (am_s (am_s (am_s (am_s (am_s (am_n (am_n (am_n (am_n am_0))))))))) (am_V.up (by omega) (by omega) hc9 hs9 H)
      · replace H := wp_f c3 H
        refine ar_iconst (iI (0)) dL_law_993 rfl ?_
        exact (wp_n H).elim
  · replace H := wp_f c1 H
    refine ar_iconst (iI (0)) dL_law_976 rfl ?_
    exact (wp_n H).elim
noncomputable def law_14 (L : Nat) (xs : Nat → Int32) (x4 : Int32) (h : am_H) : Option am_H :=
  (f_X11_farthestLeft h).bind (fun a1 => (f_X12_farthestLeft h).bind (fun a2 => if a1 = a2.1 then (some a2.2) else (none)))
theorem c_law_14 {mc ms b L : Nat} {xs : Nat → Int32} {Tm : Nat → List am_v → am_H → Prop} {cs ss : Nat} {x4 : Int32} {h : am_H} (hc9 : cs + 1 ≤ mc) (hs9 : ss + 6 ≤ ms) (H : wp (law_14 L xs x4 h) (fun h9 => am_V RL cL_law 9 (some .boolean) 14 532 mc ms (am_scr b L xs) Tm (cs + 1) (ss + 6) 23 [some (.inl (.ref b)), some (am_r (.inl 1) 0), some (am_r (.inl 0) 0), some (am_r (.inl 1) 18), some (am_i (x4 + iI (6))), none, none, none, none] [] h9)) : am_V RL cL_law 9 (some .boolean) 14 532 mc ms (am_scr b L xs) Tm cs ss 998 [some (.inl (.ref b)), some (am_r (.inl 1) 0), some (am_r (.inl 0) 0), some (am_r (.inl 1) 18), some (am_i x4), none, none, none, none] [] h := by
  unfold law_14 at H
  refine rl_a1 dL_law_998 ?_
  obtain ⟨a1, e1, H⟩ := wp_b H
  refine rc_V0i dL_law_999 ml_L_160 mc_X11_farthestLeft (c_X11_farthestLeft e1) rfl rfl rfl (ok_X rfl) rfl rfl rfl ?_
  refine rl_a2 dL_law_1002 ?_
  obtain ⟨a2, e2, H⟩ := wp_b H
  refine rc_V0i dL_law_1003 ml_L_163 mc_X12_farthestLeft (c_X12_farthestLeft e2) rfl rfl rfl (ok_M rfl) rfl rfl rfl ?_
  refine ar_ic_eq 2109 dL_law_1006 (by decide) (fun c1 => ?_) (fun c1 => ?_)
  · replace H := wp_t c1 H
    replace H := wp_s H
    refine rn_m_4 (v := x4 + iI (6)) dL_law_2109 rfl trivial rfl ?_
    refine ar_goto 23 dL_law_2112 (by decide) ?_
    exact am_V.wk (am_s (am_s (am_s (am_s (am_s (am_n (am_n (am_n (am_n am_0))))))))) (am_V.up (by omega) (by omega) hc9 hs9 H)
  · replace H := wp_f c1 H
    refine ar_iconst (iI (0)) dL_law_1009 rfl ?_
    exact (wp_n H).elim
noncomputable def law_15 (L : Nat) (xs : Nat → Int32) (x4 : Int32) (h : am_H) : Option am_H :=
  if ib (x4 + (iI (1))) L then ((f_L_room (xs ((x4 + (iI (1)))).toNatClampNeg) h).bind (fun a1 => if ib (x4 + (iI (1))) L then ((f_X12_room (xs ((x4 + (iI (1)))).toNatClampNeg) a1.2).bind (fun a2 => (f_X12_thrown a2.2).bind (fun a3 => if a3 = a1.1 then (if a1.1 = 0 then (if ib (iI (0)) 1 then (if (lg_cmp (a2.2.2.1 (.inl 1) 18 ((iI (0))).toNatClampNeg) a2.1.toInt64) = 0 then (some a2.2) else (none)) else none) else (some a2.2)) else (none)))) else none)) else none
theorem c_law_15 {mc ms b L : Nat} {xs : Nat → Int32} {Tm : Nat → List am_v → am_H → Prop} {cs ss : Nat} {x4 : Int32} {h : am_H} (hc9 : cs + 1 ≤ mc) (hs9 : ss + 6 ≤ ms) (H : wp (law_15 L xs x4 h) (fun h9 => am_V RL cL_law 9 (some .boolean) 14 532 mc ms (am_scr b L xs) Tm (cs + 1) (ss + 6) 23 [some (.inl (.ref b)), some (am_r (.inl 1) 0), some (am_r (.inl 0) 0), some (am_r (.inl 1) 18), some (am_i (x4 + iI (6))), none, none, none, none] [] h9)) : am_V RL cL_law 9 (some .boolean) 14 532 mc ms (am_scr b L xs) Tm cs ss 1011 [some (.inl (.ref b)), some (am_r (.inl 1) 0), some (am_r (.inl 0) 0), some (am_r (.inl 1) 18), some (am_i x4), none, none, none, none] [] h := by
  unfold law_15 at H
  refine rl_a1 dL_law_1011 ?_
  refine ar_aloadS dL_law_1012 ?_
  refine rl_i4 dL_law_1013 ?_
  refine ar_iconst (iI (1)) dL_law_1015 rfl ?_
  refine ar_iadd dL_law_1016 ?_
  obtain ⟨b1, H⟩ := wp_g H
  refine ar_sld dL_law_1017 (ib_in b1) ?_
  refine rl_a3 dL_law_1018 ?_
  obtain ⟨a1, e1, H⟩ := wp_b H
  refine ar_callSW (As := [am_r (.inl 1) 0, am_i (xs ((x4 + (iI (1)))).toNatClampNeg), am_r (.inl 1) 18]) dL_law_1019 ml_L_164 mc_L_room (c_L_room e1) rfl (ble rfl) (ble rfl) hc9 hs9 (am_ct_le rfl) (fun r h9 hq => ?_)
  obtain ⟨rfl, rfl⟩ := hq
  refine rs_i5 dL_law_1022 rfl trivial ?_
  refine rl_a2 dL_law_1024 ?_
  refine ar_aloadS dL_law_1025 ?_
  refine rl_i4 dL_law_1026 ?_
  refine ar_iconst (iI (1)) dL_law_1028 rfl ?_
  refine ar_iadd dL_law_1029 ?_
  obtain ⟨b2, H⟩ := wp_g H
  refine ar_sld dL_law_1030 (ib_in b2) ?_
  obtain ⟨a2, e2, H⟩ := wp_b H
  refine rc_V1i dL_law_1031 ml_L_166 mc_X12_room (c_X12_room e2) rfl rfl rfl (ok_M rfl) rfl rfl rfl ?_
  refine rs_i6 dL_law_1034 rfl trivial ?_
  refine rl_a2 dL_law_1036 ?_
  obtain ⟨a3, e3, H⟩ := wp_b H
  refine rc_V0i dL_law_1037 ml_L_113 mc_X12_thrown (c_X12_thrown e3) rfl rfl rfl (ok_M rfl) rfl rfl rfl ?_
  refine rl_i5 dL_law_1040 ?_
  refine ar_ic_eq 1047 dL_law_1042 (by decide) (fun c1 => ?_) (fun c1 => ?_)
  · replace H := wp_t c1 H
    refine rl_i5 dL_law_1047 ?_
    refine ar_if_ne 1064 dL_law_1049 (by decide) (fun c2 => ?_) (fun c2 => ?_)
    · replace H := wp_f c2 H
      refine ar_goto 2109 dL_law_1064 (by decide) ?_
      replace H := wp_s H
      refine rn_m_4 (v := x4 + iI (6)) dL_law_2109 rfl trivial rfl ?_
      refine ar_goto 23 dL_law_2112 (by decide) ?_
      exact am_V.wk (am_s (am_s (am_s (am_s (am_s (am_n (am_n (am_n (am_n am_0))))))))) (am_V.up (by omega) (by omega) hc9 hs9 H)
    · replace H := wp_t c2 H
      refine rl_a3 dL_law_1052 ?_
      refine ar_iconst (iI (0)) dL_law_1053 rfl ?_
      obtain ⟨b3, H⟩ := wp_g H
      refine ar_lald dL_law_1054 rfl (ok_X rfl) (ib_in b3) ?_
      refine rl_i6 dL_law_1055 ?_
      refine ar_i2l dL_law_1057 ?_
      refine ar_lcmp dL_law_1058 ?_
      refine ar_if_eq 1064 dL_law_1059 (by decide) (fun c3 => ?_) (fun c3 => ?_)
      · replace H := wp_t c3 H
        refine ar_goto 2109 dL_law_1064 (by decide) ?_
        replace H := wp_s H
        refine rn_m_4 (v := x4 + iI (6)) dL_law_2109 rfl trivial rfl ?_
        refine ar_goto 23 dL_law_2112 (by decide) ?_
        exact am_V.wk (am_s (am_s (am_s (am_s (am_s (am_n (am_n (am_n (am_n am_0))))))))) (am_V.up (by omega) (by omega) hc9 hs9 H)
      · replace H := wp_f c3 H
        refine ar_iconst (iI (0)) dL_law_1062 rfl ?_
        exact (wp_n H).elim
  · replace H := wp_f c1 H
    refine ar_iconst (iI (0)) dL_law_1045 rfl ?_
    exact (wp_n H).elim
noncomputable def law_16 (L : Nat) (xs : Nat → Int32) (x4 : Int32) (h : am_H) : Option am_H :=
  (f_X11_crowded h).bind (fun a1 => (f_X12_crowded a1.2).bind (fun a2 => if a1.1 = a2.1 then (some a2.2) else (none)))
theorem c_law_16 {mc ms b L : Nat} {xs : Nat → Int32} {Tm : Nat → List am_v → am_H → Prop} {cs ss : Nat} {x4 : Int32} {h : am_H} (hc9 : cs + 1 ≤ mc) (hs9 : ss + 6 ≤ ms) (H : wp (law_16 L xs x4 h) (fun h9 => am_V RL cL_law 9 (some .boolean) 14 532 mc ms (am_scr b L xs) Tm (cs + 1) (ss + 6) 23 [some (.inl (.ref b)), some (am_r (.inl 1) 0), some (am_r (.inl 0) 0), some (am_r (.inl 1) 18), some (am_i (x4 + iI (6))), none, none, none, none] [] h9)) : am_V RL cL_law 9 (some .boolean) 14 532 mc ms (am_scr b L xs) Tm cs ss 1067 [some (.inl (.ref b)), some (am_r (.inl 1) 0), some (am_r (.inl 0) 0), some (am_r (.inl 1) 18), some (am_i x4), none, none, none, none] [] h := by
  unfold law_16 at H
  refine rl_a1 dL_law_1067 ?_
  obtain ⟨a1, e1, H⟩ := wp_b H
  refine rc_V0i dL_law_1068 ml_L_167 mc_X11_crowded (c_X11_crowded e1) rfl rfl rfl (ok_X rfl) rfl rfl rfl ?_
  refine rl_a2 dL_law_1071 ?_
  obtain ⟨a2, e2, H⟩ := wp_b H
  refine rc_V0i dL_law_1072 ml_L_170 mc_X12_crowded (c_X12_crowded e2) rfl rfl rfl (ok_M rfl) rfl rfl rfl ?_
  refine ar_ic_eq 2109 dL_law_1075 (by decide) (fun c1 => ?_) (fun c1 => ?_)
  · replace H := wp_t c1 H
    replace H := wp_s H
    refine rn_m_4 (v := x4 + iI (6)) dL_law_2109 rfl trivial rfl ?_
    refine ar_goto 23 dL_law_2112 (by decide) ?_
    exact am_V.wk (am_s (am_s (am_s (am_s (am_s (am_n (am_n (am_n (am_n am_0))))))))) (am_V.up (by omega) (by omega) hc9 hs9 H)
  · replace H := wp_f c1 H
    refine ar_iconst (iI (0)) dL_law_1078 rfl ?_
    exact (wp_n H).elim
noncomputable def law_17 (L : Nat) (xs : Nat → Int32) (x4 : Int32) (h : am_H) : Option am_H :=
  (f_X11_tightest h).bind (fun a1 => (f_X12_tightest a1.2).bind (fun a2 => if a1.1 = a2.1 then (some a2.2) else (none)))
theorem c_law_17 {mc ms b L : Nat} {xs : Nat → Int32} {Tm : Nat → List am_v → am_H → Prop} {cs ss : Nat} {x4 : Int32} {h : am_H} (hc9 : cs + 1 ≤ mc) (hs9 : ss + 6 ≤ ms) (H : wp (law_17 L xs x4 h) (fun h9 => am_V RL cL_law 9 (some .boolean) 14 532 mc ms (am_scr b L xs) Tm (cs + 1) (ss + 6) 23 [some (.inl (.ref b)), some (am_r (.inl 1) 0), some (am_r (.inl 0) 0), some (am_r (.inl 1) 18), some (am_i (x4 + iI (6))), none, none, none, none] [] h9)) : am_V RL cL_law 9 (some .boolean) 14 532 mc ms (am_scr b L xs) Tm cs ss 1080 [some (.inl (.ref b)), some (am_r (.inl 1) 0), some (am_r (.inl 0) 0), some (am_r (.inl 1) 18), some (am_i x4), none, none, none, none] [] h := by
  unfold law_17 at H
  refine rl_a1 dL_law_1080 ?_
  obtain ⟨a1, e1, H⟩ := wp_b H
  refine rc_V0i dL_law_1081 ml_L_171 mc_X11_tightest (c_X11_tightest e1) rfl rfl rfl (ok_X rfl) rfl rfl rfl ?_
  refine rl_a2 dL_law_1084 ?_
  obtain ⟨a2, e2, H⟩ := wp_b H
  refine rc_V0i dL_law_1085 ml_L_174 mc_X12_tightest (c_X12_tightest e2) rfl rfl rfl (ok_M rfl) rfl rfl rfl ?_
  refine ar_ic_eq 2109 dL_law_1088 (by decide) (fun c1 => ?_) (fun c1 => ?_)
  · replace H := wp_t c1 H
    replace H := wp_s H
    refine rn_m_4 (v := x4 + iI (6)) dL_law_2109 rfl trivial rfl ?_
    refine ar_goto 23 dL_law_2112 (by decide) ?_
    exact am_V.wk (am_s (am_s (am_s (am_s (am_s (am_n (am_n (am_n (am_n am_0))))))))) (am_V.up (by omega) (by omega) hc9 hs9 H)
  · replace H := wp_f c1 H
    refine ar_iconst (iI (0)) dL_law_1091 rfl ?_
    exact (wp_n H).elim
noncomputable def law_18 (L : Nat) (xs : Nat → Int32) (x4 : Int32) (h : am_H) : Option am_H :=
  if ib (x4 + (iI (1))) L then ((f_L_flourishIn (xs ((x4 + (iI (1)))).toNatClampNeg) h).bind (fun a1 => if ib (x4 + (iI (1))) L then ((f_X12_flourishIn (xs ((x4 + (iI (1)))).toNatClampNeg) a1.2).bind (fun a2 => (f_X12_thrown a2.2).bind (fun a3 => if a3 = a1.1 then (if a1.1 = 0 then (if ib (iI (0)) 1 then (if (lg_cmp (a2.2.2.1 (.inl 1) 18 ((iI (0))).toNatClampNeg) a2.1.toInt64) = 0 then (some a2.2) else (none)) else none) else (some a2.2)) else (none)))) else none)) else none
theorem c_law_18 {mc ms b L : Nat} {xs : Nat → Int32} {Tm : Nat → List am_v → am_H → Prop} {cs ss : Nat} {x4 : Int32} {h : am_H} (hc9 : cs + 1 ≤ mc) (hs9 : ss + 6 ≤ ms) (H : wp (law_18 L xs x4 h) (fun h9 => am_V RL cL_law 9 (some .boolean) 14 532 mc ms (am_scr b L xs) Tm (cs + 1) (ss + 6) 23 [some (.inl (.ref b)), some (am_r (.inl 1) 0), some (am_r (.inl 0) 0), some (am_r (.inl 1) 18), some (am_i (x4 + iI (6))), none, none, none, none] [] h9)) : am_V RL cL_law 9 (some .boolean) 14 532 mc ms (am_scr b L xs) Tm cs ss 1093 [some (.inl (.ref b)), some (am_r (.inl 1) 0), some (am_r (.inl 0) 0), some (am_r (.inl 1) 18), some (am_i x4), none, none, none, none] [] h := by
  unfold law_18 at H
  refine rl_a1 dL_law_1093 ?_
  refine ar_aloadS dL_law_1094 ?_
  refine rl_i4 dL_law_1095 ?_
  refine ar_iconst (iI (1)) dL_law_1097 rfl ?_
  refine ar_iadd dL_law_1098 ?_
  obtain ⟨b1, H⟩ := wp_g H
  refine ar_sld dL_law_1099 (ib_in b1) ?_
  refine rl_a3 dL_law_1100 ?_
  obtain ⟨a1, e1, H⟩ := wp_b H
  refine ar_callSW (As := [am_r (.inl 1) 0, am_i (xs ((x4 + (iI (1)))).toNatClampNeg), am_r (.inl 1) 18]) dL_law_1101 ml_L_175 mc_L_flourishIn (c_L_flourishIn e1) rfl (ble rfl) (ble rfl) hc9 hs9 (am_ct_le rfl) (fun r h9 hq => ?_)
  obtain ⟨rfl, rfl⟩ := hq
  refine rs_i5 dL_law_1104 rfl trivial ?_
  refine rl_a2 dL_law_1106 ?_
  refine ar_aloadS dL_law_1107 ?_
  refine rl_i4 dL_law_1108 ?_
  refine ar_iconst (iI (1)) dL_law_1110 rfl ?_
  refine ar_iadd dL_law_1111 ?_
  obtain ⟨b2, H⟩ := wp_g H
  refine ar_sld dL_law_1112 (ib_in b2) ?_
  obtain ⟨a2, e2, H⟩ := wp_b H
  refine rc_V1i dL_law_1113 ml_L_177 mc_X12_flourishIn (c_X12_flourishIn e2) rfl rfl rfl (ok_M rfl) rfl rfl rfl ?_
  refine rs_i6 dL_law_1116 rfl trivial ?_
  refine rl_a2 dL_law_1118 ?_
  obtain ⟨a3, e3, H⟩ := wp_b H
  refine rc_V0i dL_law_1119 ml_L_113 mc_X12_thrown (c_X12_thrown e3) rfl rfl rfl (ok_M rfl) rfl rfl rfl ?_
  refine rl_i5 dL_law_1122 ?_
  refine ar_ic_eq 1129 dL_law_1124 (by decide) (fun c1 => ?_) (fun c1 => ?_)
  · replace H := wp_t c1 H
    refine rl_i5 dL_law_1129 ?_
    refine ar_if_ne 1146 dL_law_1131 (by decide) (fun c2 => ?_) (fun c2 => ?_)
    · replace H := wp_f c2 H
      refine ar_goto 2109 dL_law_1146 (by decide) ?_
      replace H := wp_s H
      refine rn_m_4 (v := x4 + iI (6)) dL_law_2109 rfl trivial rfl ?_
      refine ar_goto 23 dL_law_2112 (by decide) ?_
      exact am_V.wk (am_s (am_s (am_s (am_s (am_s (am_n (am_n (am_n (am_n am_0))))))))) (am_V.up (by omega) (by omega) hc9 hs9 H)
    · replace H := wp_t c2 H
      refine rl_a3 dL_law_1134 ?_
      refine ar_iconst (iI (0)) dL_law_1135 rfl ?_
      obtain ⟨b3, H⟩ := wp_g H
      refine ar_lald dL_law_1136 rfl (ok_X rfl) (ib_in b3) ?_
      refine rl_i6 dL_law_1137 ?_
      refine ar_i2l dL_law_1139 ?_
      refine ar_lcmp dL_law_1140 ?_
      refine ar_if_eq 1146 dL_law_1141 (by decide) (fun c3 => ?_) (fun c3 => ?_)
      · replace H := wp_t c3 H
        refine ar_goto 2109 dL_law_1146 (by decide) ?_
        replace H := wp_s H
        refine rn_m_4 (v := x4 + iI (6)) dL_law_2109 rfl trivial rfl ?_
        refine ar_goto 23 dL_law_2112 (by decide) ?_
        exact am_V.wk (am_s (am_s (am_s (am_s (am_s (am_n (am_n (am_n (am_n am_0))))))))) (am_V.up (by omega) (by omega) hc9 hs9 H)
      · replace H := wp_f c3 H
        refine ar_iconst (iI (0)) dL_law_1144 rfl ?_
        exact (wp_n H).elim
  · replace H := wp_f c1 H
    refine ar_iconst (iI (0)) dL_law_1127 rfl ?_
    exact (wp_n H).elim
noncomputable def law_19 (L : Nat) (xs : Nat → Int32) (x4 : Int32) (h : am_H) : Option am_H :=
  if ib (x4 + (iI (1))) L then ((f_L_stockLeft (xs ((x4 + (iI (1)))).toNatClampNeg) h).bind (fun a1 => if ib (x4 + (iI (1))) L then ((f_X12_stockLeft (xs ((x4 + (iI (1)))).toNatClampNeg) a1.2).bind (fun a2 => (f_X12_thrown a2.2).bind (fun a3 => if a3 = a1.1 then (if a1.1 = 0 then (if ib (iI (0)) 1 then (if (lg_cmp (a2.2.2.1 (.inl 1) 18 ((iI (0))).toNatClampNeg) a2.1.toInt64) = 0 then (some a2.2) else (none)) else none) else (some a2.2)) else (none)))) else none)) else none
theorem c_law_19 {mc ms b L : Nat} {xs : Nat → Int32} {Tm : Nat → List am_v → am_H → Prop} {cs ss : Nat} {x4 : Int32} {h : am_H} (hc9 : cs + 1 ≤ mc) (hs9 : ss + 6 ≤ ms) (H : wp (law_19 L xs x4 h) (fun h9 => am_V RL cL_law 9 (some .boolean) 14 532 mc ms (am_scr b L xs) Tm (cs + 1) (ss + 6) 23 [some (.inl (.ref b)), some (am_r (.inl 1) 0), some (am_r (.inl 0) 0), some (am_r (.inl 1) 18), some (am_i (x4 + iI (6))), none, none, none, none] [] h9)) : am_V RL cL_law 9 (some .boolean) 14 532 mc ms (am_scr b L xs) Tm cs ss 1149 [some (.inl (.ref b)), some (am_r (.inl 1) 0), some (am_r (.inl 0) 0), some (am_r (.inl 1) 18), some (am_i x4), none, none, none, none] [] h := by
  unfold law_19 at H
  refine rl_a1 dL_law_1149 ?_
  refine ar_aloadS dL_law_1150 ?_
  refine rl_i4 dL_law_1151 ?_
  refine ar_iconst (iI (1)) dL_law_1153 rfl ?_
  refine ar_iadd dL_law_1154 ?_
  obtain ⟨b1, H⟩ := wp_g H
  refine ar_sld dL_law_1155 (ib_in b1) ?_
  refine rl_a3 dL_law_1156 ?_
  obtain ⟨a1, e1, H⟩ := wp_b H
  refine ar_callSW (As := [am_r (.inl 1) 0, am_i (xs ((x4 + (iI (1)))).toNatClampNeg), am_r (.inl 1) 18]) dL_law_1157 ml_L_178 mc_L_stockLeft (c_L_stockLeft e1) rfl (ble rfl) (ble rfl) hc9 hs9 (am_ct_le rfl) (fun r h9 hq => ?_)
  obtain ⟨rfl, rfl⟩ := hq
  refine rs_i5 dL_law_1160 rfl trivial ?_
  refine rl_a2 dL_law_1162 ?_
  refine ar_aloadS dL_law_1163 ?_
  refine rl_i4 dL_law_1164 ?_
  refine ar_iconst (iI (1)) dL_law_1166 rfl ?_
  refine ar_iadd dL_law_1167 ?_
  obtain ⟨b2, H⟩ := wp_g H
  refine ar_sld dL_law_1168 (ib_in b2) ?_
  obtain ⟨a2, e2, H⟩ := wp_b H
  refine rc_V1i dL_law_1169 ml_L_180 mc_X12_stockLeft (c_X12_stockLeft e2) rfl rfl rfl (ok_M rfl) rfl rfl rfl ?_
  refine rs_i6 dL_law_1172 rfl trivial ?_
  refine rl_a2 dL_law_1174 ?_
  obtain ⟨a3, e3, H⟩ := wp_b H
  refine rc_V0i dL_law_1175 ml_L_113 mc_X12_thrown (c_X12_thrown e3) rfl rfl rfl (ok_M rfl) rfl rfl rfl ?_
  refine rl_i5 dL_law_1178 ?_
  refine ar_ic_eq 1185 dL_law_1180 (by decide) (fun c1 => ?_) (fun c1 => ?_)
  · replace H := wp_t c1 H
    refine rl_i5 dL_law_1185 ?_
    refine ar_if_ne 1202 dL_law_1187 (by decide) (fun c2 => ?_) (fun c2 => ?_)
    · replace H := wp_f c2 H
      refine ar_goto 2109 dL_law_1202 (by decide) ?_
      replace H := wp_s H
      refine rn_m_4 (v := x4 + iI (6)) dL_law_2109 rfl trivial rfl ?_
      refine ar_goto 23 dL_law_2112 (by decide) ?_
      exact am_V.wk (am_s (am_s (am_s (am_s (am_s (am_n (am_n (am_n (am_n am_0))))))))) (am_V.up (by omega) (by omega) hc9 hs9 H)
    · replace H := wp_t c2 H
      refine rl_a3 dL_law_1190 ?_
      refine ar_iconst (iI (0)) dL_law_1191 rfl ?_
      obtain ⟨b3, H⟩ := wp_g H
      refine ar_lald dL_law_1192 rfl (ok_X rfl) (ib_in b3) ?_
      refine rl_i6 dL_law_1193 ?_
      refine ar_i2l dL_law_1195 ?_
      refine ar_lcmp dL_law_1196 ?_
      refine ar_if_eq 1202 dL_law_1197 (by decide) (fun c3 => ?_) (fun c3 => ?_)
      · replace H := wp_t c3 H
        refine ar_goto 2109 dL_law_1202 (by decide) ?_
        replace H := wp_s H
        refine rn_m_4 (v := x4 + iI (6)) dL_law_2109 rfl trivial rfl ?_
        refine ar_goto 23 dL_law_2112 (by decide) ?_
        exact am_V.wk (am_s (am_s (am_s (am_s (am_s (am_n (am_n (am_n (am_n am_0))))))))) (am_V.up (by omega) (by omega) hc9 hs9 H)
      · replace H := wp_f c3 H
        refine ar_iconst (iI (0)) dL_law_1200 rfl ?_
        exact (wp_n H).elim
  · replace H := wp_f c1 H
    refine ar_iconst (iI (0)) dL_law_1183 rfl ?_
    exact (wp_n H).elim
noncomputable def law_20 (L : Nat) (xs : Nat → Int32) (x4 : Int32) (h : am_H) : Option am_H :=
  (f_X11_worth h).bind (fun a1 => (f_X12_worth a1.2).bind (fun a2 => if a1.1 = a2.1 then (some a2.2) else (none)))
theorem c_law_20 {mc ms b L : Nat} {xs : Nat → Int32} {Tm : Nat → List am_v → am_H → Prop} {cs ss : Nat} {x4 : Int32} {h : am_H} (hc9 : cs + 1 ≤ mc) (hs9 : ss + 6 ≤ ms) (H : wp (law_20 L xs x4 h) (fun h9 => am_V RL cL_law 9 (some .boolean) 14 532 mc ms (am_scr b L xs) Tm (cs + 1) (ss + 6) 23 [some (.inl (.ref b)), some (am_r (.inl 1) 0), some (am_r (.inl 0) 0), some (am_r (.inl 1) 18), some (am_i (x4 + iI (6))), none, none, none, none] [] h9)) : am_V RL cL_law 9 (some .boolean) 14 532 mc ms (am_scr b L xs) Tm cs ss 1205 [some (.inl (.ref b)), some (am_r (.inl 1) 0), some (am_r (.inl 0) 0), some (am_r (.inl 1) 18), some (am_i x4), none, none, none, none] [] h := by
  unfold law_20 at H
  refine rl_a1 dL_law_1205 ?_
  obtain ⟨a1, e1, H⟩ := wp_b H
  refine rc_V0i dL_law_1206 ml_L_181 mc_X11_worth (c_X11_worth e1) rfl rfl rfl (ok_X rfl) rfl rfl rfl ?_
  refine rl_a2 dL_law_1209 ?_
  obtain ⟨a2, e2, H⟩ := wp_b H
  refine rc_V0i dL_law_1210 ml_L_184 mc_X12_worth (c_X12_worth e2) rfl rfl rfl (ok_M rfl) rfl rfl rfl ?_
  refine ar_ic_eq 2109 dL_law_1213 (by decide) (fun c1 => ?_) (fun c1 => ?_)
  · replace H := wp_t c1 H
    replace H := wp_s H
    refine rn_m_4 (v := x4 + iI (6)) dL_law_2109 rfl trivial rfl ?_
    refine ar_goto 23 dL_law_2112 (by decide) ?_
    exact am_V.wk (am_s (am_s (am_s (am_s (am_s (am_n (am_n (am_n (am_n am_0))))))))) (am_V.up (by omega) (by omega) hc9 hs9 H)
  · replace H := wp_f c1 H
    refine ar_iconst (iI (0)) dL_law_1216 rfl ?_
    exact (wp_n H).elim
noncomputable def law_21 (L : Nat) (xs : Nat → Int32) (x4 : Int32) (h : am_H) : Option am_H :=
  (f_X11_meanRoom h).bind (fun a1 => (f_X12_meanRoom a1.2).bind (fun a2 => if (Op.cmpValue (FP.dcmp a1.1 a2.1) .l) = 0 then (some a2.2) else (if (Op.cmpValue (FP.dcmp a1.1 a1.1) .l) = 0 then (none) else (if (Op.cmpValue (FP.dcmp a2.1 a2.1) .l) = 0 then (none) else (some a2.2)))))
theorem c_law_21 {mc ms b L : Nat} {xs : Nat → Int32} {Tm : Nat → List am_v → am_H → Prop} {cs ss : Nat} {x4 : Int32} {h : am_H} (hc9 : cs + 1 ≤ mc) (hs9 : ss + 6 ≤ ms) (H : wp (law_21 L xs x4 h) (fun h9 => am_V RL cL_law 9 (some .boolean) 14 532 mc ms (am_scr b L xs) Tm (cs + 1) (ss + 6) 23 [some (.inl (.ref b)), some (am_r (.inl 1) 0), some (am_r (.inl 0) 0), some (am_r (.inl 1) 18), some (am_i (x4 + iI (6))), none, none, none, none] [] h9)) : am_V RL cL_law 9 (some .boolean) 14 532 mc ms (am_scr b L xs) Tm cs ss 1218 [some (.inl (.ref b)), some (am_r (.inl 1) 0), some (am_r (.inl 0) 0), some (am_r (.inl 1) 18), some (am_i x4), none, none, none, none] [] h := by
  unfold law_21 at H
  refine rl_a1 dL_law_1218 ?_
  obtain ⟨a1, e1, H⟩ := wp_b H
  refine rc_V0 dL_law_1219 ml_L_185 mc_X11_meanRoom (c_X11_meanRoom e1) rfl rfl rfl (ok_X rfl) rfl rfl (Nat.le_trans (Nat.le_refl cs) (Nat.le_of_succ_le hc9)) (Nat.le_trans (Nat.le_add_right ss 0) (Nat.le_trans (Nat.le_add_right ss 6) hs9)) rfl (fun r h9 hq => ?_)
  obtain ⟨rfl, rfl⟩ := hq
  refine rs_d5 dL_law_1222 rfl trivial ?_
  refine rl_a2 dL_law_1224 ?_
  obtain ⟨a2, e2, H⟩ := wp_b H
  refine rc_V0 dL_law_1225 ml_L_189 mc_X12_meanRoom (c_X12_meanRoom e2) rfl rfl rfl (ok_M rfl) rfl rfl (Nat.le_trans (Nat.le_refl cs) (Nat.le_of_succ_le hc9)) (Nat.le_trans (Nat.le_add_right ss 0) (Nat.le_trans (Nat.le_add_right ss 6) hs9)) rfl (fun r h9 hq => ?_)
  obtain ⟨rfl, rfl⟩ := hq
  refine rs_d7 dL_law_1228 rfl trivial ?_
  refine rl_d5 dL_law_1230 ?_
  refine rl_d7 dL_law_1232 ?_
  refine ar_dcmp dL_law_1234 ?_
  refine ar_if_eq 1256 dL_law_1235 (by decide) (fun c1 => ?_) (fun c1 => ?_)
  · replace H := wp_t c1 H
    refine ar_goto 2109 dL_law_1256 (by decide) ?_
    replace H := wp_s H
    refine rn_m_4 (v := x4 + iI (6)) dL_law_2109 rfl trivial rfl ?_
    refine ar_goto 23 dL_law_2112 (by decide) ?_
    exact am_V.wk (am_s (am_s (am_s (am_s (am_s (am_n (am_n (am_n (am_n am_0))))))))) (am_V.up (by omega) (by omega) hc9 hs9 H)
  · replace H := wp_f c1 H
    refine rl_d5 dL_law_1238 ?_
    refine rl_d5 dL_law_1240 ?_
    refine ar_dcmp dL_law_1242 ?_
    refine ar_if_eq 1254 dL_law_1243 (by decide) (fun c2 => ?_) (fun c2 => ?_)
    · replace H := wp_t c2 H
      refine ar_iconst (iI (0)) dL_law_1254 rfl ?_
      exact (wp_n H).elim
    · replace H := wp_f c2 H
      refine rl_d7 dL_law_1246 ?_
      refine rl_d7 dL_law_1248 ?_
      refine ar_dcmp dL_law_1250 ?_
      refine ar_if_ne 1256 dL_law_1251 (by decide) (fun c3 => ?_) (fun c3 => ?_)
      · replace H := wp_f c3 H
        refine ar_goto 2109 dL_law_1256 (by decide) ?_
        replace H := wp_s H
        refine rn_m_4 (v := x4 + iI (6)) dL_law_2109 rfl trivial rfl ?_
        refine ar_goto 23 dL_law_2112 (by decide) ?_
        exact am_V.wk (am_s (am_s (am_s (am_s (am_s (am_n (am_n (am_n (am_n am_0))))))))) (am_V.up (by omega) (by omega) hc9 hs9 H)
      · replace H := wp_t c3 H
        refine ar_iconst (iI (0)) dL_law_1254 rfl ?_
        exact (wp_n H).elim
noncomputable def law_22 (L : Nat) (xs : Nat → Int32) (x4 : Int32) (h : am_H) : Option am_H :=
  (f_X11_filled h).bind (fun a1 => if nf64 (FP.f2d a1) then ((f_X12_filled h).bind (fun a2 => if nf64 (FP.f2d a2.1) then (if (Op.cmpValue (FP.dcmp (FP.f2d a1) (FP.f2d a2.1)) .l) = 0 then (some a2.2) else (if (Op.cmpValue (FP.dcmp (FP.f2d a1) (FP.f2d a1)) .l) = 0 then (none) else (if (Op.cmpValue (FP.dcmp (FP.f2d a2.1) (FP.f2d a2.1)) .l) = 0 then (none) else (some a2.2)))) else none)) else none)
theorem c_law_22 {mc ms b L : Nat} {xs : Nat → Int32} {Tm : Nat → List am_v → am_H → Prop} {cs ss : Nat} {x4 : Int32} {h : am_H} (hc9 : cs + 1 ≤ mc) (hs9 : ss + 6 ≤ ms) (H : wp (law_22 L xs x4 h) (fun h9 => am_V RL cL_law 9 (some .boolean) 14 532 mc ms (am_scr b L xs) Tm (cs + 1) (ss + 6) 23 [some (.inl (.ref b)), some (am_r (.inl 1) 0), some (am_r (.inl 0) 0), some (am_r (.inl 1) 18), some (am_i (x4 + iI (6))), none, none, none, none] [] h9)) : am_V RL cL_law 9 (some .boolean) 14 532 mc ms (am_scr b L xs) Tm cs ss 1259 [some (.inl (.ref b)), some (am_r (.inl 1) 0), some (am_r (.inl 0) 0), some (am_r (.inl 1) 18), some (am_i x4), none, none, none, none] [] h := by
  unfold law_22 at H
  refine rl_a1 dL_law_1259 ?_
  obtain ⟨a1, e1, H⟩ := wp_b H
  refine rc_V0 dL_law_1260 ml_L_190 mc_X11_filled (c_X11_filled e1) rfl rfl rfl (ok_X rfl) rfl rfl (Nat.le_trans (Nat.le_refl cs) (Nat.le_of_succ_le hc9)) (Nat.le_trans (Nat.le_add_right ss 0) (Nat.le_trans (Nat.le_add_right ss 6) hs9)) rfl (fun r h9 hq => ?_)
  obtain ⟨rfl, rfl⟩ := hq
  obtain ⟨b1, H⟩ := wp_g H
  refine ar_f2d dL_law_1263 b1 ?_
  refine rs_d5 dL_law_1264 rfl trivial ?_
  refine rl_a2 dL_law_1266 ?_
  obtain ⟨a2, e2, H⟩ := wp_b H
  refine rc_V0 dL_law_1267 ml_L_194 mc_X12_filled (c_X12_filled e2) rfl rfl rfl (ok_M rfl) rfl rfl (Nat.le_trans (Nat.le_refl cs) (Nat.le_of_succ_le hc9)) (Nat.le_trans (Nat.le_add_right ss 0) (Nat.le_trans (Nat.le_add_right ss 6) hs9)) rfl (fun r h9 hq => ?_)
  obtain ⟨rfl, rfl⟩ := hq
  obtain ⟨b2, H⟩ := wp_g H
  refine ar_f2d dL_law_1270 b2 ?_
  refine rs_d7 dL_law_1271 rfl trivial ?_
  refine rl_d5 dL_law_1273 ?_
  refine rl_d7 dL_law_1275 ?_
  refine ar_dcmp dL_law_1277 ?_
  refine ar_if_eq 1299 dL_law_1278 (by decide) (fun c1 => ?_) (fun c1 => ?_)
  · replace H := wp_t c1 H
    refine ar_goto 2109 dL_law_1299 (by decide) ?_
    replace H := wp_s H
    refine rn_m_4 (v := x4 + iI (6)) dL_law_2109 rfl trivial rfl ?_
    refine ar_goto 23 dL_law_2112 (by decide) ?_
    exact am_V.wk (am_s (am_s (am_s (am_s (am_s (am_n (am_n (am_n (am_n am_0))))))))) (am_V.up (by omega) (by omega) hc9 hs9 H)
  · replace H := wp_f c1 H
    refine rl_d5 dL_law_1281 ?_
    refine rl_d5 dL_law_1283 ?_
    refine ar_dcmp dL_law_1285 ?_
    refine ar_if_eq 1297 dL_law_1286 (by decide) (fun c2 => ?_) (fun c2 => ?_)
    · replace H := wp_t c2 H
      refine ar_iconst (iI (0)) dL_law_1297 rfl ?_
      exact (wp_n H).elim
    · replace H := wp_f c2 H
      refine rl_d7 dL_law_1289 ?_
      refine rl_d7 dL_law_1291 ?_
      refine ar_dcmp dL_law_1293 ?_
      refine ar_if_ne 1299 dL_law_1294 (by decide) (fun c3 => ?_) (fun c3 => ?_)
      · replace H := wp_f c3 H
        refine ar_goto 2109 dL_law_1299 (by decide) ?_
        replace H := wp_s H
        refine rn_m_4 (v := x4 + iI (6)) dL_law_2109 rfl trivial rfl ?_
        refine ar_goto 23 dL_law_2112 (by decide) ?_
        exact am_V.wk (am_s (am_s (am_s (am_s (am_s (am_n (am_n (am_n (am_n am_0))))))))) (am_V.up (by omega) (by omega) hc9 hs9 H)
      · replace H := wp_t c3 H
        refine ar_iconst (iI (0)) dL_law_1297 rfl ?_
        exact (wp_n H).elim
noncomputable def law_23 (L : Nat) (xs : Nat → Int32) (x4 : Int32) (h : am_H) : Option am_H :=
  if ib (x4 + (iI (1))) L then ((f_L_danger (xs ((x4 + (iI (1)))).toNatClampNeg) h).bind (fun a1 => if ib (x4 + (iI (1))) L then ((f_X12_danger (xs ((x4 + (iI (1)))).toNatClampNeg) a1.2).bind (fun a2 => (f_X12_thrown a2.2).bind (fun a3 => if a3 = a1.1 then (if a1.1 = 0 then (if ib (iI (0)) 1 then (if (lg_cmp (a2.2.2.1 (.inl 1) 18 ((iI (0))).toNatClampNeg) a2.1.toInt64) = 0 then (some a2.2) else (none)) else none) else (some a2.2)) else (none)))) else none)) else none
theorem c_law_23 {mc ms b L : Nat} {xs : Nat → Int32} {Tm : Nat → List am_v → am_H → Prop} {cs ss : Nat} {x4 : Int32} {h : am_H} (hc9 : cs + 1 ≤ mc) (hs9 : ss + 6 ≤ ms) (H : wp (law_23 L xs x4 h) (fun h9 => am_V RL cL_law 9 (some .boolean) 14 532 mc ms (am_scr b L xs) Tm (cs + 1) (ss + 6) 23 [some (.inl (.ref b)), some (am_r (.inl 1) 0), some (am_r (.inl 0) 0), some (am_r (.inl 1) 18), some (am_i (x4 + iI (6))), none, none, none, none] [] h9)) : am_V RL cL_law 9 (some .boolean) 14 532 mc ms (am_scr b L xs) Tm cs ss 1302 [some (.inl (.ref b)), some (am_r (.inl 1) 0), some (am_r (.inl 0) 0), some (am_r (.inl 1) 18), some (am_i x4), none, none, none, none] [] h := by
  unfold law_23 at H
  refine rl_a1 dL_law_1302 ?_
  refine ar_aloadS dL_law_1303 ?_
  refine rl_i4 dL_law_1304 ?_
  refine ar_iconst (iI (1)) dL_law_1306 rfl ?_
  refine ar_iadd dL_law_1307 ?_
  obtain ⟨b1, H⟩ := wp_g H
  refine ar_sld dL_law_1308 (ib_in b1) ?_
  refine rl_a3 dL_law_1309 ?_
  obtain ⟨a1, e1, H⟩ := wp_b H
  refine ar_callSW (As := [am_r (.inl 1) 0, am_i (xs ((x4 + (iI (1)))).toNatClampNeg), am_r (.inl 1) 18]) dL_law_1310 ml_L_195 mc_L_danger (c_L_danger e1) rfl (ble rfl) (ble rfl) hc9 hs9 (am_ct_le rfl) (fun r h9 hq => ?_)
  obtain ⟨rfl, rfl⟩ := hq
  refine rs_i5 dL_law_1313 rfl trivial ?_
  refine rl_a2 dL_law_1315 ?_
  refine ar_aloadS dL_law_1316 ?_
  refine rl_i4 dL_law_1317 ?_
  refine ar_iconst (iI (1)) dL_law_1319 rfl ?_
  refine ar_iadd dL_law_1320 ?_
  obtain ⟨b2, H⟩ := wp_g H
  refine ar_sld dL_law_1321 (ib_in b2) ?_
  obtain ⟨a2, e2, H⟩ := wp_b H
  refine rc_V1i dL_law_1322 ml_L_197 mc_X12_danger (c_X12_danger e2) rfl rfl rfl (ok_M rfl) rfl rfl rfl ?_
  refine rs_i6 dL_law_1325 rfl trivial ?_
  refine rl_a2 dL_law_1327 ?_
  obtain ⟨a3, e3, H⟩ := wp_b H
  refine rc_V0i dL_law_1328 ml_L_113 mc_X12_thrown (c_X12_thrown e3) rfl rfl rfl (ok_M rfl) rfl rfl rfl ?_
  refine rl_i5 dL_law_1331 ?_
  refine ar_ic_eq 1338 dL_law_1333 (by decide) (fun c1 => ?_) (fun c1 => ?_)
  · replace H := wp_t c1 H
    refine rl_i5 dL_law_1338 ?_
    refine ar_if_ne 1355 dL_law_1340 (by decide) (fun c2 => ?_) (fun c2 => ?_)
    · replace H := wp_f c2 H
      refine ar_goto 2109 dL_law_1355 (by decide) ?_
      replace H := wp_s H
      refine rn_m_4 (v := x4 + iI (6)) dL_law_2109 rfl trivial rfl ?_
      refine ar_goto 23 dL_law_2112 (by decide) ?_
      exact am_V.wk (am_s (am_s (am_s (am_s (am_s (am_n (am_n (am_n (am_n am_0))))))))) (am_V.up (by omega) (by omega) hc9 hs9 H)
    · replace H := wp_t c2 H
      refine rl_a3 dL_law_1343 ?_
      refine ar_iconst (iI (0)) dL_law_1344 rfl ?_
      obtain ⟨b3, H⟩ := wp_g H
      refine ar_lald dL_law_1345 rfl (ok_X rfl) (ib_in b3) ?_
      refine rl_i6 dL_law_1346 ?_
      refine ar_i2l dL_law_1348 ?_
      refine ar_lcmp dL_law_1349 ?_
      refine ar_if_eq 1355 dL_law_1350 (by decide) (fun c3 => ?_) (fun c3 => ?_)
      · replace H := wp_t c3 H
        refine ar_goto 2109 dL_law_1355 (by decide) ?_
        replace H := wp_s H
        refine rn_m_4 (v := x4 + iI (6)) dL_law_2109 rfl trivial rfl ?_
        refine ar_goto 23 dL_law_2112 (by decide) ?_
        exact am_V.wk (am_s (am_s (am_s (am_s (am_s (am_n (am_n (am_n (am_n am_0))))))))) (am_V.up (by omega) (by omega) hc9 hs9 H)
      · replace H := wp_f c3 H
        refine ar_iconst (iI (0)) dL_law_1353 rfl ?_
        exact (wp_n H).elim
  · replace H := wp_f c1 H
    refine ar_iconst (iI (0)) dL_law_1336 rfl ?_
    exact (wp_n H).elim
noncomputable def law_24 (L : Nat) (xs : Nat → Int32) (x4 : Int32) (h : am_H) : Option am_H :=
  (f_X11_slipsIf h).bind (fun a1 => (f_X12_slipsIf a1.2).bind (fun a2 => if a1.1 = a2.1 then (some a2.2) else (none)))
theorem c_law_24 {mc ms b L : Nat} {xs : Nat → Int32} {Tm : Nat → List am_v → am_H → Prop} {cs ss : Nat} {x4 : Int32} {h : am_H} (hc9 : cs + 1 ≤ mc) (hs9 : ss + 6 ≤ ms) (H : wp (law_24 L xs x4 h) (fun h9 => am_V RL cL_law 9 (some .boolean) 14 532 mc ms (am_scr b L xs) Tm (cs + 1) (ss + 6) 23 [some (.inl (.ref b)), some (am_r (.inl 1) 0), some (am_r (.inl 0) 0), some (am_r (.inl 1) 18), some (am_i (x4 + iI (6))), none, none, none, none] [] h9)) : am_V RL cL_law 9 (some .boolean) 14 532 mc ms (am_scr b L xs) Tm cs ss 1358 [some (.inl (.ref b)), some (am_r (.inl 1) 0), some (am_r (.inl 0) 0), some (am_r (.inl 1) 18), some (am_i x4), none, none, none, none] [] h := by
  unfold law_24 at H
  refine rl_a1 dL_law_1358 ?_
  obtain ⟨a1, e1, H⟩ := wp_b H
  refine rc_V0i dL_law_1359 ml_L_198 mc_X11_slipsIf (c_X11_slipsIf e1) rfl rfl rfl (ok_X rfl) rfl rfl rfl ?_
  refine rl_a2 dL_law_1362 ?_
  obtain ⟨a2, e2, H⟩ := wp_b H
  refine rc_V0i dL_law_1363 ml_L_201 mc_X12_slipsIf (c_X12_slipsIf e2) rfl rfl rfl (ok_M rfl) rfl rfl rfl ?_
  refine ar_ic_eq 2109 dL_law_1366 (by decide) (fun c1 => ?_) (fun c1 => ?_)
  · replace H := wp_t c1 H
    replace H := wp_s H
    refine rn_m_4 (v := x4 + iI (6)) dL_law_2109 rfl trivial rfl ?_
    refine ar_goto 23 dL_law_2112 (by decide) ?_
    exact am_V.wk (am_s (am_s (am_s (am_s (am_s (am_n (am_n (am_n (am_n am_0))))))))) (am_V.up (by omega) (by omega) hc9 hs9 H)
  · replace H := wp_f c1 H
    refine ar_iconst (iI (0)) dL_law_1369 rfl ?_
    exact (wp_n H).elim
noncomputable def law_25 (L : Nat) (xs : Nat → Int32) (x4 : Int32) (h : am_H) : Option am_H :=
  (f_X11_leastSharp h).bind (fun a1 => (f_X12_leastSharp a1.2).bind (fun a2 => if a1.1 = a2.1 then (some a2.2) else (none)))
theorem c_law_25 {mc ms b L : Nat} {xs : Nat → Int32} {Tm : Nat → List am_v → am_H → Prop} {cs ss : Nat} {x4 : Int32} {h : am_H} (hc9 : cs + 1 ≤ mc) (hs9 : ss + 6 ≤ ms) (H : wp (law_25 L xs x4 h) (fun h9 => am_V RL cL_law 9 (some .boolean) 14 532 mc ms (am_scr b L xs) Tm (cs + 1) (ss + 6) 23 [some (.inl (.ref b)), some (am_r (.inl 1) 0), some (am_r (.inl 0) 0), some (am_r (.inl 1) 18), some (am_i (x4 + iI (6))), none, none, none, none] [] h9)) : am_V RL cL_law 9 (some .boolean) 14 532 mc ms (am_scr b L xs) Tm cs ss 1371 [some (.inl (.ref b)), some (am_r (.inl 1) 0), some (am_r (.inl 0) 0), some (am_r (.inl 1) 18), some (am_i x4), none, none, none, none] [] h := by
  unfold law_25 at H
  refine rl_a1 dL_law_1371 ?_
  obtain ⟨a1, e1, H⟩ := wp_b H
  refine rc_V0i dL_law_1372 ml_L_202 mc_X11_leastSharp (c_X11_leastSharp e1) rfl rfl rfl (ok_X rfl) rfl rfl rfl ?_
  refine rl_a2 dL_law_1375 ?_
  obtain ⟨a2, e2, H⟩ := wp_b H
  refine rc_V0i dL_law_1376 ml_L_205 mc_X12_leastSharp (c_X12_leastSharp e2) rfl rfl rfl (ok_M rfl) rfl rfl rfl ?_
  refine ar_ic_eq 2109 dL_law_1379 (by decide) (fun c1 => ?_) (fun c1 => ?_)
  · replace H := wp_t c1 H
    replace H := wp_s H
    refine rn_m_4 (v := x4 + iI (6)) dL_law_2109 rfl trivial rfl ?_
    refine ar_goto 23 dL_law_2112 (by decide) ?_
    exact am_V.wk (am_s (am_s (am_s (am_s (am_s (am_n (am_n (am_n (am_n am_0))))))))) (am_V.up (by omega) (by omega) hc9 hs9 H)
  · replace H := wp_f c1 H
    refine ar_iconst (iI (0)) dL_law_1382 rfl ?_
    exact (wp_n H).elim
noncomputable def law_26 (L : Nat) (xs : Nat → Int32) (x4 : Int32) (h : am_H) : Option am_H :=
  (f_X11_leastGrowth h).bind (fun a1 => (f_X12_leastGrowth a1.2).bind (fun a2 => if a1.1 = a2.1 then (some a2.2) else (none)))
theorem c_law_26 {mc ms b L : Nat} {xs : Nat → Int32} {Tm : Nat → List am_v → am_H → Prop} {cs ss : Nat} {x4 : Int32} {h : am_H} (hc9 : cs + 1 ≤ mc) (hs9 : ss + 6 ≤ ms) (H : wp (law_26 L xs x4 h) (fun h9 => am_V RL cL_law 9 (some .boolean) 14 532 mc ms (am_scr b L xs) Tm (cs + 1) (ss + 6) 23 [some (.inl (.ref b)), some (am_r (.inl 1) 0), some (am_r (.inl 0) 0), some (am_r (.inl 1) 18), some (am_i (x4 + iI (6))), none, none, none, none] [] h9)) : am_V RL cL_law 9 (some .boolean) 14 532 mc ms (am_scr b L xs) Tm cs ss 1384 [some (.inl (.ref b)), some (am_r (.inl 1) 0), some (am_r (.inl 0) 0), some (am_r (.inl 1) 18), some (am_i x4), none, none, none, none] [] h := by
  unfold law_26 at H
  refine rl_a1 dL_law_1384 ?_
  obtain ⟨a1, e1, H⟩ := wp_b H
  refine rc_V0i dL_law_1385 ml_L_206 mc_X11_leastGrowth (c_X11_leastGrowth e1) rfl rfl rfl (ok_X rfl) rfl rfl rfl ?_
  refine rl_a2 dL_law_1388 ?_
  obtain ⟨a2, e2, H⟩ := wp_b H
  refine rc_V0i dL_law_1389 ml_L_209 mc_X12_leastGrowth (c_X12_leastGrowth e2) rfl rfl rfl (ok_M rfl) rfl rfl rfl ?_
  refine ar_ic_eq 2109 dL_law_1392 (by decide) (fun c1 => ?_) (fun c1 => ?_)
  · replace H := wp_t c1 H
    replace H := wp_s H
    refine rn_m_4 (v := x4 + iI (6)) dL_law_2109 rfl trivial rfl ?_
    refine ar_goto 23 dL_law_2112 (by decide) ?_
    exact am_V.wk (am_s (am_s (am_s (am_s (am_s (am_n (am_n (am_n (am_n am_0))))))))) (am_V.up (by omega) (by omega) hc9 hs9 H)
  · replace H := wp_f c1 H
    refine ar_iconst (iI (0)) dL_law_1395 rfl ?_
    exact (wp_n H).elim
noncomputable def law_27 (L : Nat) (xs : Nat → Int32) (x4 : Int32) (h : am_H) : Option am_H :=
  if ib (x4 + (iI (1))) L then ((f_L_mostWidth (xs ((x4 + (iI (1)))).toNatClampNeg) h).bind (fun a1 => if ib (x4 + (iI (1))) L then ((f_X12_mostWidth (xs ((x4 + (iI (1)))).toNatClampNeg) a1.2).bind (fun a2 => (f_X12_thrown a2.2).bind (fun a3 => if a3 = a1.1 then (if a1.1 = 0 then (if ib (iI (0)) 1 then (if (lg_cmp (a2.2.2.1 (.inl 1) 18 ((iI (0))).toNatClampNeg) a2.1.toInt64) = 0 then (some a2.2) else (none)) else none) else (some a2.2)) else (none)))) else none)) else none
theorem c_law_27 {mc ms b L : Nat} {xs : Nat → Int32} {Tm : Nat → List am_v → am_H → Prop} {cs ss : Nat} {x4 : Int32} {h : am_H} (hc9 : cs + 1 ≤ mc) (hs9 : ss + 6 ≤ ms) (H : wp (law_27 L xs x4 h) (fun h9 => am_V RL cL_law 9 (some .boolean) 14 532 mc ms (am_scr b L xs) Tm (cs + 1) (ss + 6) 23 [some (.inl (.ref b)), some (am_r (.inl 1) 0), some (am_r (.inl 0) 0), some (am_r (.inl 1) 18), some (am_i (x4 + iI (6))), none, none, none, none] [] h9)) : am_V RL cL_law 9 (some .boolean) 14 532 mc ms (am_scr b L xs) Tm cs ss 1397 [some (.inl (.ref b)), some (am_r (.inl 1) 0), some (am_r (.inl 0) 0), some (am_r (.inl 1) 18), some (am_i x4), none, none, none, none] [] h := by
  unfold law_27 at H
  refine rl_a1 dL_law_1397 ?_
  refine ar_aloadS dL_law_1398 ?_
  refine rl_i4 dL_law_1399 ?_
  refine ar_iconst (iI (1)) dL_law_1401 rfl ?_
  refine ar_iadd dL_law_1402 ?_
  obtain ⟨b1, H⟩ := wp_g H
  refine ar_sld dL_law_1403 (ib_in b1) ?_
  refine rl_a3 dL_law_1404 ?_
  obtain ⟨a1, e1, H⟩ := wp_b H
  refine ar_callSW (As := [am_r (.inl 1) 0, am_i (xs ((x4 + (iI (1)))).toNatClampNeg), am_r (.inl 1) 18]) dL_law_1405 ml_L_210 mc_L_mostWidth (c_L_mostWidth e1) rfl (ble rfl) (ble rfl) hc9 hs9 (am_ct_le rfl) (fun r h9 hq => ?_)
  obtain ⟨rfl, rfl⟩ := hq
  refine rs_i5 dL_law_1408 rfl trivial ?_
  refine rl_a2 dL_law_1410 ?_
  refine ar_aloadS dL_law_1411 ?_
  refine rl_i4 dL_law_1412 ?_
  refine ar_iconst (iI (1)) dL_law_1414 rfl ?_
  refine ar_iadd dL_law_1415 ?_
  obtain ⟨b2, H⟩ := wp_g H
  refine ar_sld dL_law_1416 (ib_in b2) ?_
  obtain ⟨a2, e2, H⟩ := wp_b H
  refine rc_V1i dL_law_1417 ml_L_212 mc_X12_mostWidth (c_X12_mostWidth e2) rfl rfl rfl (ok_M rfl) rfl rfl rfl ?_
  refine rs_i6 dL_law_1420 rfl trivial ?_
  refine rl_a2 dL_law_1422 ?_
  obtain ⟨a3, e3, H⟩ := wp_b H
  refine rc_V0i dL_law_1423 ml_L_113 mc_X12_thrown (c_X12_thrown e3) rfl rfl rfl (ok_M rfl) rfl rfl rfl ?_
  refine rl_i5 dL_law_1426 ?_
  refine ar_ic_eq 1433 dL_law_1428 (by decide) (fun c1 => ?_) (fun c1 => ?_)
  · replace H := wp_t c1 H
    refine rl_i5 dL_law_1433 ?_
    refine ar_if_ne 1450 dL_law_1435 (by decide) (fun c2 => ?_) (fun c2 => ?_)
    · replace H := wp_f c2 H
      refine ar_goto 2109 dL_law_1450 (by decide) ?_
      replace H := wp_s H
      refine rn_m_4 (v := x4 + iI (6)) dL_law_2109 rfl trivial rfl ?_
      refine ar_goto 23 dL_law_2112 (by decide) ?_
      exact am_V.wk (am_s (am_s (am_s (am_s (am_s (am_n (am_n (am_n (am_n am_0))))))))) (am_V.up (by omega) (by omega) hc9 hs9 H)
    · replace H := wp_t c2 H
      refine rl_a3 dL_law_1438 ?_
      refine ar_iconst (iI (0)) dL_law_1439 rfl ?_
      obtain ⟨b3, H⟩ := wp_g H
      refine ar_lald dL_law_1440 rfl (ok_X rfl) (ib_in b3) ?_
      refine rl_i6 dL_law_1441 ?_
      refine ar_i2l dL_law_1443 ?_
      refine ar_lcmp dL_law_1444 ?_
      refine ar_if_eq 1450 dL_law_1445 (by decide) (fun c3 => ?_) (fun c3 => ?_)
      · replace H := wp_t c3 H
        refine ar_goto 2109 dL_law_1450 (by decide) ?_
        replace H := wp_s H
        refine rn_m_4 (v := x4 + iI (6)) dL_law_2109 rfl trivial rfl ?_
        refine ar_goto 23 dL_law_2112 (by decide) ?_
        exact am_V.wk (am_s (am_s (am_s (am_s (am_s (am_n (am_n (am_n (am_n am_0))))))))) (am_V.up (by omega) (by omega) hc9 hs9 H)
      · replace H := wp_f c3 H
        refine ar_iconst (iI (0)) dL_law_1448 rfl ?_
        exact (wp_n H).elim
  · replace H := wp_f c1 H
    refine ar_iconst (iI (0)) dL_law_1431 rfl ?_
    exact (wp_n H).elim
noncomputable def law_28 (L : Nat) (xs : Nat → Int32) (x4 : Int32) (h : am_H) : Option am_H :=
  (f_L_tightestIf h).bind (fun a1 => (f_X12_tightestIf a1.2).bind (fun a2 => (f_X12_thrown a2.2).bind (fun a3 => if a3 = a1.1 then (if a1.1 = 0 then (if ib (iI (0)) 1 then (if (lg_cmp (a2.2.2.1 (.inl 1) 18 ((iI (0))).toNatClampNeg) a2.1.toInt64) = 0 then (some a2.2) else (none)) else none) else (some a2.2)) else (none))))
theorem c_law_28 {mc ms b L : Nat} {xs : Nat → Int32} {Tm : Nat → List am_v → am_H → Prop} {cs ss : Nat} {x4 : Int32} {h : am_H} (hc9 : cs + 1 ≤ mc) (hs9 : ss + 6 ≤ ms) (H : wp (law_28 L xs x4 h) (fun h9 => am_V RL cL_law 9 (some .boolean) 14 532 mc ms (am_scr b L xs) Tm (cs + 1) (ss + 6) 23 [some (.inl (.ref b)), some (am_r (.inl 1) 0), some (am_r (.inl 0) 0), some (am_r (.inl 1) 18), some (am_i (x4 + iI (6))), none, none, none, none] [] h9)) : am_V RL cL_law 9 (some .boolean) 14 532 mc ms (am_scr b L xs) Tm cs ss 1453 [some (.inl (.ref b)), some (am_r (.inl 1) 0), some (am_r (.inl 0) 0), some (am_r (.inl 1) 18), some (am_i x4), none, none, none, none] [] h := by
  unfold law_28 at H
  refine rl_a1 dL_law_1453 ?_
  refine rl_a3 dL_law_1454 ?_
  obtain ⟨a1, e1, H⟩ := wp_b H
  refine ar_callSW (As := [am_r (.inl 1) 0, am_r (.inl 1) 18]) dL_law_1455 ml_L_213 mc_L_tightestIf (c_L_tightestIf e1) rfl (ble rfl) (ble rfl) hc9 hs9 (am_ct_le rfl) (fun r h9 hq => ?_)
  obtain ⟨rfl, rfl⟩ := hq
  refine rs_i5 dL_law_1458 rfl trivial ?_
  refine rl_a2 dL_law_1460 ?_
  obtain ⟨a2, e2, H⟩ := wp_b H
  refine rc_V0i dL_law_1461 ml_L_215 mc_X12_tightestIf (c_X12_tightestIf e2) rfl rfl rfl (ok_M rfl) rfl rfl rfl ?_
  refine rs_i6 dL_law_1464 rfl trivial ?_
  refine rl_a2 dL_law_1466 ?_
  obtain ⟨a3, e3, H⟩ := wp_b H
  refine rc_V0i dL_law_1467 ml_L_113 mc_X12_thrown (c_X12_thrown e3) rfl rfl rfl (ok_M rfl) rfl rfl rfl ?_
  refine rl_i5 dL_law_1470 ?_
  refine ar_ic_eq 1477 dL_law_1472 (by decide) (fun c1 => ?_) (fun c1 => ?_)
  · replace H := wp_t c1 H
    refine rl_i5 dL_law_1477 ?_
    refine ar_if_ne 1494 dL_law_1479 (by decide) (fun c2 => ?_) (fun c2 => ?_)
    · replace H := wp_f c2 H
      refine ar_goto 2109 dL_law_1494 (by decide) ?_
      replace H := wp_s H
      refine rn_m_4 (v := x4 + iI (6)) dL_law_2109 rfl trivial rfl ?_
      refine ar_goto 23 dL_law_2112 (by decide) ?_
      exact am_V.wk (am_s (am_s (am_s (am_s (am_s (am_n (am_n (am_n (am_n am_0))))))))) (am_V.up (by omega) (by omega) hc9 hs9 H)
    · replace H := wp_t c2 H
      refine rl_a3 dL_law_1482 ?_
      refine ar_iconst (iI (0)) dL_law_1483 rfl ?_
      obtain ⟨b1, H⟩ := wp_g H
      refine ar_lald dL_law_1484 rfl (ok_X rfl) (ib_in b1) ?_
      refine rl_i6 dL_law_1485 ?_
      refine ar_i2l dL_law_1487 ?_
      refine ar_lcmp dL_law_1488 ?_
      refine ar_if_eq 1494 dL_law_1489 (by decide) (fun c3 => ?_) (fun c3 => ?_)
      · replace H := wp_t c3 H
        refine ar_goto 2109 dL_law_1494 (by decide) ?_
        replace H := wp_s H
        refine rn_m_4 (v := x4 + iI (6)) dL_law_2109 rfl trivial rfl ?_
        refine ar_goto 23 dL_law_2112 (by decide) ?_
        exact am_V.wk (am_s (am_s (am_s (am_s (am_s (am_n (am_n (am_n (am_n am_0))))))))) (am_V.up (by omega) (by omega) hc9 hs9 H)
      · replace H := wp_f c3 H
        refine ar_iconst (iI (0)) dL_law_1492 rfl ?_
        exact (wp_n H).elim
  · replace H := wp_f c1 H
    refine ar_iconst (iI (0)) dL_law_1475 rfl ?_
    exact (wp_n H).elim
noncomputable def law_29 (L : Nat) (xs : Nat → Int32) (x4 : Int32) (h : am_H) : Option am_H :=
  (f_X11_spare h).bind (fun a1 => (f_X12_spare a1.2).bind (fun a2 => if a1.1 = a2.1 then (some a2.2) else (none)))
theorem c_law_29 {mc ms b L : Nat} {xs : Nat → Int32} {Tm : Nat → List am_v → am_H → Prop} {cs ss : Nat} {x4 : Int32} {h : am_H} (hc9 : cs + 1 ≤ mc) (hs9 : ss + 6 ≤ ms) (H : wp (law_29 L xs x4 h) (fun h9 => am_V RL cL_law 9 (some .boolean) 14 532 mc ms (am_scr b L xs) Tm (cs + 1) (ss + 6) 23 [some (.inl (.ref b)), some (am_r (.inl 1) 0), some (am_r (.inl 0) 0), some (am_r (.inl 1) 18), some (am_i (x4 + iI (6))), none, none, none, none] [] h9)) : am_V RL cL_law 9 (some .boolean) 14 532 mc ms (am_scr b L xs) Tm cs ss 1497 [some (.inl (.ref b)), some (am_r (.inl 1) 0), some (am_r (.inl 0) 0), some (am_r (.inl 1) 18), some (am_i x4), none, none, none, none] [] h := by
  unfold law_29 at H
  refine rl_a1 dL_law_1497 ?_
  obtain ⟨a1, e1, H⟩ := wp_b H
  refine rc_V0i dL_law_1498 ml_L_216 mc_X11_spare (c_X11_spare e1) rfl rfl rfl (ok_X rfl) rfl rfl rfl ?_
  refine rl_a2 dL_law_1501 ?_
  obtain ⟨a2, e2, H⟩ := wp_b H
  refine rc_V0i dL_law_1502 ml_L_219 mc_X12_spare (c_X12_spare e2) rfl rfl rfl (ok_M rfl) rfl rfl rfl ?_
  refine ar_ic_eq 2109 dL_law_1505 (by decide) (fun c1 => ?_) (fun c1 => ?_)
  · replace H := wp_t c1 H
    replace H := wp_s H
    refine rn_m_4 (v := x4 + iI (6)) dL_law_2109 rfl trivial rfl ?_
    refine ar_goto 23 dL_law_2112 (by decide) ?_
    exact am_V.wk (am_s (am_s (am_s (am_s (am_s (am_n (am_n (am_n (am_n am_0))))))))) (am_V.up (by omega) (by omega) hc9 hs9 H)
  · replace H := wp_f c1 H
    refine ar_iconst (iI (0)) dL_law_1508 rfl ?_
    exact (wp_n H).elim
noncomputable def law_30 (L : Nat) (xs : Nat → Int32) (x4 : Int32) (h : am_H) : Option am_H :=
  if ib (x4 + (iI (1))) L then ((f_L_engrave (xs ((x4 + (iI (1)))).toNatClampNeg) h).bind (fun a1 => if ib (x4 + (iI (1))) L then ((f_X12_engrave (xs ((x4 + (iI (1)))).toNatClampNeg) a1.2).bind (fun a2 => (f_X12_thrown a2.2).bind (fun a3 => if a3 = a1.1 then (if a1.1 = 0 then (if ib (iI (0)) 1 then (if (lg_cmp (a2.2.2.1 (.inl 1) 18 ((iI (0))).toNatClampNeg) a2.1.toInt64) = 0 then (some a2.2) else (none)) else none) else (some a2.2)) else (none)))) else none)) else none
theorem c_law_30 {mc ms b L : Nat} {xs : Nat → Int32} {Tm : Nat → List am_v → am_H → Prop} {cs ss : Nat} {x4 : Int32} {h : am_H} (hc9 : cs + 1 ≤ mc) (hs9 : ss + 6 ≤ ms) (H : wp (law_30 L xs x4 h) (fun h9 => am_V RL cL_law 9 (some .boolean) 14 532 mc ms (am_scr b L xs) Tm (cs + 1) (ss + 6) 23 [some (.inl (.ref b)), some (am_r (.inl 1) 0), some (am_r (.inl 0) 0), some (am_r (.inl 1) 18), some (am_i (x4 + iI (6))), none, none, none, none] [] h9)) : am_V RL cL_law 9 (some .boolean) 14 532 mc ms (am_scr b L xs) Tm cs ss 1510 [some (.inl (.ref b)), some (am_r (.inl 1) 0), some (am_r (.inl 0) 0), some (am_r (.inl 1) 18), some (am_i x4), none, none, none, none] [] h := by
  unfold law_30 at H
  refine rl_a1 dL_law_1510 ?_
  refine ar_aloadS dL_law_1511 ?_
  refine rl_i4 dL_law_1512 ?_
  refine ar_iconst (iI (1)) dL_law_1514 rfl ?_
  refine ar_iadd dL_law_1515 ?_
  obtain ⟨b1, H⟩ := wp_g H
  refine ar_sld dL_law_1516 (ib_in b1) ?_
  refine rl_a3 dL_law_1517 ?_
  obtain ⟨a1, e1, H⟩ := wp_b H
  refine ar_callSW (As := [am_r (.inl 1) 0, am_i (xs ((x4 + (iI (1)))).toNatClampNeg), am_r (.inl 1) 18]) dL_law_1518 ml_L_220 mc_L_engrave (c_L_engrave e1) rfl (ble rfl) (ble rfl) hc9 hs9 (am_ct_le rfl) (fun r h9 hq => ?_)
  obtain ⟨rfl, rfl⟩ := hq
  refine rs_i5 dL_law_1521 rfl trivial ?_
  refine rl_a2 dL_law_1523 ?_
  refine ar_aloadS dL_law_1524 ?_
  refine rl_i4 dL_law_1525 ?_
  refine ar_iconst (iI (1)) dL_law_1527 rfl ?_
  refine ar_iadd dL_law_1528 ?_
  obtain ⟨b2, H⟩ := wp_g H
  refine ar_sld dL_law_1529 (ib_in b2) ?_
  obtain ⟨a2, e2, H⟩ := wp_b H
  refine rc_V1i dL_law_1530 ml_L_222 mc_X12_engrave (c_X12_engrave e2) rfl rfl rfl (ok_M rfl) rfl rfl rfl ?_
  refine rs_i6 dL_law_1533 rfl trivial ?_
  refine rl_a2 dL_law_1535 ?_
  obtain ⟨a3, e3, H⟩ := wp_b H
  refine rc_V0i dL_law_1536 ml_L_113 mc_X12_thrown (c_X12_thrown e3) rfl rfl rfl (ok_M rfl) rfl rfl rfl ?_
  refine rl_i5 dL_law_1539 ?_
  refine ar_ic_eq 1546 dL_law_1541 (by decide) (fun c1 => ?_) (fun c1 => ?_)
  · replace H := wp_t c1 H
    refine rl_i5 dL_law_1546 ?_
    refine ar_if_ne 1563 dL_law_1548 (by decide) (fun c2 => ?_) (fun c2 => ?_)
    · replace H := wp_f c2 H
      refine ar_goto 2109 dL_law_1563 (by decide) ?_
      replace H := wp_s H
      refine rn_m_4 (v := x4 + iI (6)) dL_law_2109 rfl trivial rfl ?_
      refine ar_goto 23 dL_law_2112 (by decide) ?_
      exact am_V.wk (am_s (am_s (am_s (am_s (am_s (am_n (am_n (am_n (am_n am_0))))))))) (am_V.up (by omega) (by omega) hc9 hs9 H)
    · replace H := wp_t c2 H
      refine rl_a3 dL_law_1551 ?_
      refine ar_iconst (iI (0)) dL_law_1552 rfl ?_
      obtain ⟨b3, H⟩ := wp_g H
      refine ar_lald dL_law_1553 rfl (ok_X rfl) (ib_in b3) ?_
      refine rl_i6 dL_law_1554 ?_
      refine ar_i2l dL_law_1556 ?_
      refine ar_lcmp dL_law_1557 ?_
      refine ar_if_eq 1563 dL_law_1558 (by decide) (fun c3 => ?_) (fun c3 => ?_)
      · replace H := wp_t c3 H
        refine ar_goto 2109 dL_law_1563 (by decide) ?_
        replace H := wp_s H
        refine rn_m_4 (v := x4 + iI (6)) dL_law_2109 rfl trivial rfl ?_
        refine ar_goto 23 dL_law_2112 (by decide) ?_
        exact am_V.wk (am_s (am_s (am_s (am_s (am_s (am_n (am_n (am_n (am_n am_0))))))))) (am_V.up (by omega) (by omega) hc9 hs9 H)
      · replace H := wp_f c3 H
        refine ar_iconst (iI (0)) dL_law_1561 rfl ?_
        exact (wp_n H).elim
  · replace H := wp_f c1 H
    refine ar_iconst (iI (0)) dL_law_1544 rfl ?_
    exact (wp_n H).elim
noncomputable def law_31 (L : Nat) (xs : Nat → Int32) (x4 : Int32) (h : am_H) : Option am_H :=
  (f_L_engraveAll h).bind (fun a1 => (f_X12_engraveAll a1.2).bind (fun a2 => (f_X12_thrown a2.2).bind (fun a3 => if a3 = a1.1 then (if a1.1 = 0 then (if ib (iI (0)) 1 then (if (lg_cmp (a2.2.2.1 (.inl 1) 18 ((iI (0))).toNatClampNeg) a2.1.toInt64) = 0 then (some a2.2) else (none)) else none) else (some a2.2)) else (none))))
theorem c_law_31 {mc ms b L : Nat} {xs : Nat → Int32} {Tm : Nat → List am_v → am_H → Prop} {cs ss : Nat} {x4 : Int32} {h : am_H} (hc9 : cs + 1 ≤ mc) (hs9 : ss + 6 ≤ ms) (H : wp (law_31 L xs x4 h) (fun h9 => am_V RL cL_law 9 (some .boolean) 14 532 mc ms (am_scr b L xs) Tm (cs + 1) (ss + 6) 23 [some (.inl (.ref b)), some (am_r (.inl 1) 0), some (am_r (.inl 0) 0), some (am_r (.inl 1) 18), some (am_i (x4 + iI (6))), none, none, none, none] [] h9)) : am_V RL cL_law 9 (some .boolean) 14 532 mc ms (am_scr b L xs) Tm cs ss 1566 [some (.inl (.ref b)), some (am_r (.inl 1) 0), some (am_r (.inl 0) 0), some (am_r (.inl 1) 18), some (am_i x4), none, none, none, none] [] h := by
  unfold law_31 at H
  refine rl_a1 dL_law_1566 ?_
  refine rl_a3 dL_law_1567 ?_
  obtain ⟨a1, e1, H⟩ := wp_b H
  refine ar_callSW (As := [am_r (.inl 1) 0, am_r (.inl 1) 18]) dL_law_1568 ml_L_223 mc_L_engraveAll (c_L_engraveAll e1) rfl (ble rfl) (ble rfl) hc9 hs9 (am_ct_le rfl) (fun r h9 hq => ?_)
  obtain ⟨rfl, rfl⟩ := hq
  refine rs_i5 dL_law_1571 rfl trivial ?_
  refine rl_a2 dL_law_1573 ?_
  obtain ⟨a2, e2, H⟩ := wp_b H
  refine rc_V0i dL_law_1574 ml_L_225 mc_X12_engraveAll (c_X12_engraveAll e2) rfl rfl rfl (ok_M rfl) rfl rfl rfl ?_
  refine rs_i6 dL_law_1577 rfl trivial ?_
  refine rl_a2 dL_law_1579 ?_
  obtain ⟨a3, e3, H⟩ := wp_b H
  refine rc_V0i dL_law_1580 ml_L_113 mc_X12_thrown (c_X12_thrown e3) rfl rfl rfl (ok_M rfl) rfl rfl rfl ?_
  refine rl_i5 dL_law_1583 ?_
  refine ar_ic_eq 1590 dL_law_1585 (by decide) (fun c1 => ?_) (fun c1 => ?_)
  · replace H := wp_t c1 H
    refine rl_i5 dL_law_1590 ?_
    refine ar_if_ne 1607 dL_law_1592 (by decide) (fun c2 => ?_) (fun c2 => ?_)
    · replace H := wp_f c2 H
      refine ar_goto 2109 dL_law_1607 (by decide) ?_
      replace H := wp_s H
      refine rn_m_4 (v := x4 + iI (6)) dL_law_2109 rfl trivial rfl ?_
      refine ar_goto 23 dL_law_2112 (by decide) ?_
      exact am_V.wk (am_s (am_s (am_s (am_s (am_s (am_n (am_n (am_n (am_n am_0))))))))) (am_V.up (by omega) (by omega) hc9 hs9 H)
    · replace H := wp_t c2 H
      refine rl_a3 dL_law_1595 ?_
      refine ar_iconst (iI (0)) dL_law_1596 rfl ?_
      obtain ⟨b1, H⟩ := wp_g H
      refine ar_lald dL_law_1597 rfl (ok_X rfl) (ib_in b1) ?_
      refine rl_i6 dL_law_1598 ?_
      refine ar_i2l dL_law_1600 ?_
      refine ar_lcmp dL_law_1601 ?_
      refine ar_if_eq 1607 dL_law_1602 (by decide) (fun c3 => ?_) (fun c3 => ?_)
      · replace H := wp_t c3 H
        refine ar_goto 2109 dL_law_1607 (by decide) ?_
        replace H := wp_s H
        refine rn_m_4 (v := x4 + iI (6)) dL_law_2109 rfl trivial rfl ?_
        refine ar_goto 23 dL_law_2112 (by decide) ?_
        exact am_V.wk (am_s (am_s (am_s (am_s (am_s (am_n (am_n (am_n (am_n am_0))))))))) (am_V.up (by omega) (by omega) hc9 hs9 H)
      · replace H := wp_f c3 H
        refine ar_iconst (iI (0)) dL_law_1605 rfl ?_
        exact (wp_n H).elim
  · replace H := wp_f c1 H
    refine ar_iconst (iI (0)) dL_law_1588 rfl ?_
    exact (wp_n H).elim
noncomputable def law_32 (L : Nat) (xs : Nat → Int32) (x4 : Int32) (h : am_H) : Option am_H :=
  if ib (x4 + (iI (1))) L then ((f_L_mend (xs ((x4 + (iI (1)))).toNatClampNeg) h).bind (fun a1 => if ib (x4 + (iI (1))) L then ((f_X12_mend (xs ((x4 + (iI (1)))).toNatClampNeg) a1.2).bind (fun a2 => (f_X12_thrown a2.2).bind (fun a3 => if a3 = a1.1 then (if a1.1 = 0 then (if ib (iI (0)) 1 then (if (lg_cmp (a2.2.2.1 (.inl 1) 18 ((iI (0))).toNatClampNeg) a2.1.toInt64) = 0 then (some a2.2) else (none)) else none) else (some a2.2)) else (none)))) else none)) else none
theorem c_law_32 {mc ms b L : Nat} {xs : Nat → Int32} {Tm : Nat → List am_v → am_H → Prop} {cs ss : Nat} {x4 : Int32} {h : am_H} (hc9 : cs + 1 ≤ mc) (hs9 : ss + 6 ≤ ms) (H : wp (law_32 L xs x4 h) (fun h9 => am_V RL cL_law 9 (some .boolean) 14 532 mc ms (am_scr b L xs) Tm (cs + 1) (ss + 6) 23 [some (.inl (.ref b)), some (am_r (.inl 1) 0), some (am_r (.inl 0) 0), some (am_r (.inl 1) 18), some (am_i (x4 + iI (6))), none, none, none, none] [] h9)) : am_V RL cL_law 9 (some .boolean) 14 532 mc ms (am_scr b L xs) Tm cs ss 1610 [some (.inl (.ref b)), some (am_r (.inl 1) 0), some (am_r (.inl 0) 0), some (am_r (.inl 1) 18), some (am_i x4), none, none, none, none] [] h := by
  unfold law_32 at H
  refine rl_a1 dL_law_1610 ?_
  refine ar_aloadS dL_law_1611 ?_
  refine rl_i4 dL_law_1612 ?_
  refine ar_iconst (iI (1)) dL_law_1614 rfl ?_
  refine ar_iadd dL_law_1615 ?_
  obtain ⟨b1, H⟩ := wp_g H
  refine ar_sld dL_law_1616 (ib_in b1) ?_
  refine rl_a3 dL_law_1617 ?_
  obtain ⟨a1, e1, H⟩ := wp_b H
  refine ar_callSW (As := [am_r (.inl 1) 0, am_i (xs ((x4 + (iI (1)))).toNatClampNeg), am_r (.inl 1) 18]) dL_law_1618 ml_L_226 mc_L_mend (c_L_mend e1) rfl (ble rfl) (ble rfl) hc9 hs9 (am_ct_le rfl) (fun r h9 hq => ?_)
  obtain ⟨rfl, rfl⟩ := hq
  refine rs_i5 dL_law_1621 rfl trivial ?_
  refine rl_a2 dL_law_1623 ?_
  refine ar_aloadS dL_law_1624 ?_
  refine rl_i4 dL_law_1625 ?_
  refine ar_iconst (iI (1)) dL_law_1627 rfl ?_
  refine ar_iadd dL_law_1628 ?_
  obtain ⟨b2, H⟩ := wp_g H
  refine ar_sld dL_law_1629 (ib_in b2) ?_
  obtain ⟨a2, e2, H⟩ := wp_b H
  refine rc_V1i dL_law_1630 ml_L_228 mc_X12_mend (c_X12_mend e2) rfl rfl rfl (ok_M rfl) rfl rfl rfl ?_
  refine rs_i6 dL_law_1633 rfl trivial ?_
  refine rl_a2 dL_law_1635 ?_
  obtain ⟨a3, e3, H⟩ := wp_b H
  refine rc_V0i dL_law_1636 ml_L_113 mc_X12_thrown (c_X12_thrown e3) rfl rfl rfl (ok_M rfl) rfl rfl rfl ?_
  refine rl_i5 dL_law_1639 ?_
  refine ar_ic_eq 1646 dL_law_1641 (by decide) (fun c1 => ?_) (fun c1 => ?_)
  · replace H := wp_t c1 H
    refine rl_i5 dL_law_1646 ?_
    refine ar_if_ne 1663 dL_law_1648 (by decide) (fun c2 => ?_) (fun c2 => ?_)
    · replace H := wp_f c2 H
      refine ar_goto 2109 dL_law_1663 (by decide) ?_
      replace H := wp_s H
      refine rn_m_4 (v := x4 + iI (6)) dL_law_2109 rfl trivial rfl ?_
      refine ar_goto 23 dL_law_2112 (by decide) ?_
      exact am_V.wk (am_s (am_s (am_s (am_s (am_s (am_n (am_n (am_n (am_n am_0))))))))) (am_V.up (by omega) (by omega) hc9 hs9 H)
    · replace H := wp_t c2 H
      refine rl_a3 dL_law_1651 ?_
      refine ar_iconst (iI (0)) dL_law_1652 rfl ?_
      obtain ⟨b3, H⟩ := wp_g H
      refine ar_lald dL_law_1653 rfl (ok_X rfl) (ib_in b3) ?_
      refine rl_i6 dL_law_1654 ?_
      refine ar_i2l dL_law_1656 ?_
      refine ar_lcmp dL_law_1657 ?_
      refine ar_if_eq 1663 dL_law_1658 (by decide) (fun c3 => ?_) (fun c3 => ?_)
      · replace H := wp_t c3 H
        refine ar_goto 2109 dL_law_1663 (by decide) ?_
        replace H := wp_s H
        refine rn_m_4 (v := x4 + iI (6)) dL_law_2109 rfl trivial rfl ?_
        refine ar_goto 23 dL_law_2112 (by decide) ?_
        exact am_V.wk (am_s (am_s (am_s (am_s (am_s (am_n (am_n (am_n (am_n am_0))))))))) (am_V.up (by omega) (by omega) hc9 hs9 H)
      · replace H := wp_f c3 H
        refine ar_iconst (iI (0)) dL_law_1661 rfl ?_
        exact (wp_n H).elim
  · replace H := wp_f c1 H
    refine ar_iconst (iI (0)) dL_law_1644 rfl ?_
    exact (wp_n H).elim
noncomputable def law_33 (L : Nat) (xs : Nat → Int32) (x4 : Int32) (h : am_H) : Option am_H :=
  if ib (x4 + (iI (1))) L then ((f_L_polish (xs ((x4 + (iI (1)))).toNatClampNeg) h).bind (fun a1 => if ib (x4 + (iI (1))) L then ((f_X12_polish (xs ((x4 + (iI (1)))).toNatClampNeg) a1.2).bind (fun a2 => (f_X12_thrown a2.2).bind (fun a3 => if a3 = a1.1 then (if a1.1 = 0 then (if ib (iI (0)) 1 then (if (lg_cmp (a2.2.2.1 (.inl 1) 18 ((iI (0))).toNatClampNeg) a2.1.toInt64) = 0 then (some a2.2) else (none)) else none) else (some a2.2)) else (none)))) else none)) else none
theorem c_law_33 {mc ms b L : Nat} {xs : Nat → Int32} {Tm : Nat → List am_v → am_H → Prop} {cs ss : Nat} {x4 : Int32} {h : am_H} (hc9 : cs + 1 ≤ mc) (hs9 : ss + 6 ≤ ms) (H : wp (law_33 L xs x4 h) (fun h9 => am_V RL cL_law 9 (some .boolean) 14 532 mc ms (am_scr b L xs) Tm (cs + 1) (ss + 6) 23 [some (.inl (.ref b)), some (am_r (.inl 1) 0), some (am_r (.inl 0) 0), some (am_r (.inl 1) 18), some (am_i (x4 + iI (6))), none, none, none, none] [] h9)) : am_V RL cL_law 9 (some .boolean) 14 532 mc ms (am_scr b L xs) Tm cs ss 1666 [some (.inl (.ref b)), some (am_r (.inl 1) 0), some (am_r (.inl 0) 0), some (am_r (.inl 1) 18), some (am_i x4), none, none, none, none] [] h := by
  unfold law_33 at H
  refine rl_a1 dL_law_1666 ?_
  refine ar_aloadS dL_law_1667 ?_
  refine rl_i4 dL_law_1668 ?_
  refine ar_iconst (iI (1)) dL_law_1670 rfl ?_
  refine ar_iadd dL_law_1671 ?_
  obtain ⟨b1, H⟩ := wp_g H
  refine ar_sld dL_law_1672 (ib_in b1) ?_
  refine rl_a3 dL_law_1673 ?_
  obtain ⟨a1, e1, H⟩ := wp_b H
  refine ar_callSW (As := [am_r (.inl 1) 0, am_i (xs ((x4 + (iI (1)))).toNatClampNeg), am_r (.inl 1) 18]) dL_law_1674 ml_L_229 mc_L_polish (c_L_polish e1) rfl (ble rfl) (ble rfl) hc9 hs9 (am_ct_le rfl) (fun r h9 hq => ?_)
  obtain ⟨rfl, rfl⟩ := hq
  refine rs_i5 dL_law_1677 rfl trivial ?_
  refine rl_a2 dL_law_1679 ?_
  refine ar_aloadS dL_law_1680 ?_
  refine rl_i4 dL_law_1681 ?_
  refine ar_iconst (iI (1)) dL_law_1683 rfl ?_
  refine ar_iadd dL_law_1684 ?_
  obtain ⟨b2, H⟩ := wp_g H
  refine ar_sld dL_law_1685 (ib_in b2) ?_
  obtain ⟨a2, e2, H⟩ := wp_b H
  refine rc_V1i dL_law_1686 ml_L_231 mc_X12_polish (c_X12_polish e2) rfl rfl rfl (ok_M rfl) rfl rfl rfl ?_
  refine rs_i6 dL_law_1689 rfl trivial ?_
  refine rl_a2 dL_law_1691 ?_
  obtain ⟨a3, e3, H⟩ := wp_b H
  refine rc_V0i dL_law_1692 ml_L_113 mc_X12_thrown (c_X12_thrown e3) rfl rfl rfl (ok_M rfl) rfl rfl rfl ?_
  refine rl_i5 dL_law_1695 ?_
  refine ar_ic_eq 1702 dL_law_1697 (by decide) (fun c1 => ?_) (fun c1 => ?_)
  · replace H := wp_t c1 H
    refine rl_i5 dL_law_1702 ?_
    refine ar_if_ne 1719 dL_law_1704 (by decide) (fun c2 => ?_) (fun c2 => ?_)
    · replace H := wp_f c2 H
      refine ar_goto 2109 dL_law_1719 (by decide) ?_
      replace H := wp_s H
      refine rn_m_4 (v := x4 + iI (6)) dL_law_2109 rfl trivial rfl ?_
      refine ar_goto 23 dL_law_2112 (by decide) ?_
      exact am_V.wk (am_s (am_s (am_s (am_s (am_s (am_n (am_n (am_n (am_n am_0))))))))) (am_V.up (by omega) (by omega) hc9 hs9 H)
    · replace H := wp_t c2 H
      refine rl_a3 dL_law_1707 ?_
      refine ar_iconst (iI (0)) dL_law_1708 rfl ?_
      obtain ⟨b3, H⟩ := wp_g H
      refine ar_lald dL_law_1709 rfl (ok_X rfl) (ib_in b3) ?_
      refine rl_i6 dL_law_1710 ?_
      refine ar_i2l dL_law_1712 ?_
      refine ar_lcmp dL_law_1713 ?_
      refine ar_if_eq 1719 dL_law_1714 (by decide) (fun c3 => ?_) (fun c3 => ?_)
      · replace H := wp_t c3 H
        refine ar_goto 2109 dL_law_1719 (by decide) ?_
        replace H := wp_s H
        refine rn_m_4 (v := x4 + iI (6)) dL_law_2109 rfl trivial rfl ?_
        refine ar_goto 23 dL_law_2112 (by decide) ?_
        exact am_V.wk (am_s (am_s (am_s (am_s (am_s (am_n (am_n (am_n (am_n am_0))))))))) (am_V.up (by omega) (by omega) hc9 hs9 H)
      · replace H := wp_f c3 H
        refine ar_iconst (iI (0)) dL_law_1717 rfl ?_
        exact (wp_n H).elim
  · replace H := wp_f c1 H
    refine ar_iconst (iI (0)) dL_law_1700 rfl ?_
    exact (wp_n H).elim
noncomputable def law_34 (L : Nat) (xs : Nat → Int32) (x4 : Int32) (h : am_H) : Option am_H :=
  if ib (x4 + (iI (1))) L then ((f_L_sharpen (xs ((x4 + (iI (1)))).toNatClampNeg) h).bind (fun a1 => if ib (x4 + (iI (1))) L then ((f_X12_sharpen (xs ((x4 + (iI (1)))).toNatClampNeg) a1.2).bind (fun a2 => (f_X12_thrown a2.2).bind (fun a3 => if a3 = a1.1 then (if a1.1 = 0 then (if ib (iI (0)) 1 then (if (lg_cmp (a2.2.2.1 (.inl 1) 18 ((iI (0))).toNatClampNeg) a2.1.toInt64) = 0 then (some a2.2) else (none)) else none) else (some a2.2)) else (none)))) else none)) else none
theorem c_law_34 {mc ms b L : Nat} {xs : Nat → Int32} {Tm : Nat → List am_v → am_H → Prop} {cs ss : Nat} {x4 : Int32} {h : am_H} (hc9 : cs + 1 ≤ mc) (hs9 : ss + 6 ≤ ms) (H : wp (law_34 L xs x4 h) (fun h9 => am_V RL cL_law 9 (some .boolean) 14 532 mc ms (am_scr b L xs) Tm (cs + 1) (ss + 6) 23 [some (.inl (.ref b)), some (am_r (.inl 1) 0), some (am_r (.inl 0) 0), some (am_r (.inl 1) 18), some (am_i (x4 + iI (6))), none, none, none, none] [] h9)) : am_V RL cL_law 9 (some .boolean) 14 532 mc ms (am_scr b L xs) Tm cs ss 1722 [some (.inl (.ref b)), some (am_r (.inl 1) 0), some (am_r (.inl 0) 0), some (am_r (.inl 1) 18), some (am_i x4), none, none, none, none] [] h := by
  unfold law_34 at H
  refine rl_a1 dL_law_1722 ?_
  refine ar_aloadS dL_law_1723 ?_
  refine rl_i4 dL_law_1724 ?_
  refine ar_iconst (iI (1)) dL_law_1726 rfl ?_
  refine ar_iadd dL_law_1727 ?_
  obtain ⟨b1, H⟩ := wp_g H
  refine ar_sld dL_law_1728 (ib_in b1) ?_
  refine rl_a3 dL_law_1729 ?_
  obtain ⟨a1, e1, H⟩ := wp_b H
  refine ar_callSW (As := [am_r (.inl 1) 0, am_i (xs ((x4 + (iI (1)))).toNatClampNeg), am_r (.inl 1) 18]) dL_law_1730 ml_L_232 mc_L_sharpen (c_L_sharpen e1) rfl (ble rfl) (ble rfl) hc9 hs9 (am_ct_le rfl) (fun r h9 hq => ?_)
  obtain ⟨rfl, rfl⟩ := hq
  refine rs_i5 dL_law_1733 rfl trivial ?_
  refine rl_a2 dL_law_1735 ?_
  refine ar_aloadS dL_law_1736 ?_
  refine rl_i4 dL_law_1737 ?_
  refine ar_iconst (iI (1)) dL_law_1739 rfl ?_
  refine ar_iadd dL_law_1740 ?_
  obtain ⟨b2, H⟩ := wp_g H
  refine ar_sld dL_law_1741 (ib_in b2) ?_
  obtain ⟨a2, e2, H⟩ := wp_b H
  refine rc_V1i dL_law_1742 ml_L_234 mc_X12_sharpen (c_X12_sharpen e2) rfl rfl rfl (ok_M rfl) rfl rfl rfl ?_
  refine rs_i6 dL_law_1745 rfl trivial ?_
  refine rl_a2 dL_law_1747 ?_
  obtain ⟨a3, e3, H⟩ := wp_b H
  refine rc_V0i dL_law_1748 ml_L_113 mc_X12_thrown (c_X12_thrown e3) rfl rfl rfl (ok_M rfl) rfl rfl rfl ?_
  refine rl_i5 dL_law_1751 ?_
  refine ar_ic_eq 1758 dL_law_1753 (by decide) (fun c1 => ?_) (fun c1 => ?_)
  · replace H := wp_t c1 H
    refine rl_i5 dL_law_1758 ?_
    refine ar_if_ne 1775 dL_law_1760 (by decide) (fun c2 => ?_) (fun c2 => ?_)
    · replace H := wp_f c2 H
      refine ar_goto 2109 dL_law_1775 (by decide) ?_
      replace H := wp_s H
      refine rn_m_4 (v := x4 + iI (6)) dL_law_2109 rfl trivial rfl ?_
      refine ar_goto 23 dL_law_2112 (by decide) ?_
      exact am_V.wk (am_s (am_s (am_s (am_s (am_s (am_n (am_n (am_n (am_n am_0))))))))) (am_V.up (by omega) (by omega) hc9 hs9 H)
    · replace H := wp_t c2 H
      refine rl_a3 dL_law_1763 ?_
      refine ar_iconst (iI (0)) dL_law_1764 rfl ?_
      obtain ⟨b3, H⟩ := wp_g H
      refine ar_lald dL_law_1765 rfl (ok_X rfl) (ib_in b3) ?_
      refine rl_i6 dL_law_1766 ?_
      refine ar_i2l dL_law_1768 ?_
      refine ar_lcmp dL_law_1769 ?_
      refine ar_if_eq 1775 dL_law_1770 (by decide) (fun c3 => ?_) (fun c3 => ?_)
      · replace H := wp_t c3 H
        refine ar_goto 2109 dL_law_1775 (by decide) ?_
        replace H := wp_s H
        refine rn_m_4 (v := x4 + iI (6)) dL_law_2109 rfl trivial rfl ?_
        refine ar_goto 23 dL_law_2112 (by decide) ?_
        exact am_V.wk (am_s (am_s (am_s (am_s (am_s (am_n (am_n (am_n (am_n am_0))))))))) (am_V.up (by omega) (by omega) hc9 hs9 H)
      · replace H := wp_f c3 H
        refine ar_iconst (iI (0)) dL_law_1773 rfl ?_
        exact (wp_n H).elim
  · replace H := wp_f c1 H
    refine ar_iconst (iI (0)) dL_law_1756 rfl ?_
    exact (wp_n H).elim
noncomputable def law_35 (L : Nat) (xs : Nat → Int32) (x4 : Int32) (h : am_H) : Option am_H :=
  if ib (x4 + (iI (1))) L then ((f_L_setMargin (xs ((x4 + (iI (1)))).toNatClampNeg) h).bind (fun a1 => if ib (x4 + (iI (1))) L then ((f_X12_setMargin (xs ((x4 + (iI (1)))).toNatClampNeg) a1.2).bind (fun a2 => (f_X12_thrown a2.2).bind (fun a3 => if a3 = a1.1 then (if a1.1 = 0 then (if ib (iI (0)) 1 then (if (lg_cmp (a2.2.2.1 (.inl 1) 18 ((iI (0))).toNatClampNeg) a2.1.toInt64) = 0 then (some a2.2) else (none)) else none) else (some a2.2)) else (none)))) else none)) else none
theorem c_law_35 {mc ms b L : Nat} {xs : Nat → Int32} {Tm : Nat → List am_v → am_H → Prop} {cs ss : Nat} {x4 : Int32} {h : am_H} (hc9 : cs + 1 ≤ mc) (hs9 : ss + 6 ≤ ms) (H : wp (law_35 L xs x4 h) (fun h9 => am_V RL cL_law 9 (some .boolean) 14 532 mc ms (am_scr b L xs) Tm (cs + 1) (ss + 6) 23 [some (.inl (.ref b)), some (am_r (.inl 1) 0), some (am_r (.inl 0) 0), some (am_r (.inl 1) 18), some (am_i (x4 + iI (6))), none, none, none, none] [] h9)) : am_V RL cL_law 9 (some .boolean) 14 532 mc ms (am_scr b L xs) Tm cs ss 1778 [some (.inl (.ref b)), some (am_r (.inl 1) 0), some (am_r (.inl 0) 0), some (am_r (.inl 1) 18), some (am_i x4), none, none, none, none] [] h := by
  unfold law_35 at H
  refine rl_a1 dL_law_1778 ?_
  refine ar_aloadS dL_law_1779 ?_
  refine rl_i4 dL_law_1780 ?_
  refine ar_iconst (iI (1)) dL_law_1782 rfl ?_
  refine ar_iadd dL_law_1783 ?_
  obtain ⟨b1, H⟩ := wp_g H
  refine ar_sld dL_law_1784 (ib_in b1) ?_
  refine rl_a3 dL_law_1785 ?_
  obtain ⟨a1, e1, H⟩ := wp_b H
  refine ar_callSW (As := [am_r (.inl 1) 0, am_i (xs ((x4 + (iI (1)))).toNatClampNeg), am_r (.inl 1) 18]) dL_law_1786 ml_L_235 mc_L_setMargin (c_L_setMargin e1) rfl (ble rfl) (ble rfl) hc9 hs9 (am_ct_le rfl) (fun r h9 hq => ?_)
  obtain ⟨rfl, rfl⟩ := hq
  refine rs_i5 dL_law_1789 rfl trivial ?_
  refine rl_a2 dL_law_1791 ?_
  refine ar_aloadS dL_law_1792 ?_
  refine rl_i4 dL_law_1793 ?_
  refine ar_iconst (iI (1)) dL_law_1795 rfl ?_
  refine ar_iadd dL_law_1796 ?_
  obtain ⟨b2, H⟩ := wp_g H
  refine ar_sld dL_law_1797 (ib_in b2) ?_
  obtain ⟨a2, e2, H⟩ := wp_b H
  refine rc_V1i dL_law_1798 ml_L_237 mc_X12_setMargin (c_X12_setMargin e2) rfl rfl rfl (ok_M rfl) rfl rfl rfl ?_
  refine rs_i6 dL_law_1801 rfl trivial ?_
  refine rl_a2 dL_law_1803 ?_
  obtain ⟨a3, e3, H⟩ := wp_b H
  refine rc_V0i dL_law_1804 ml_L_113 mc_X12_thrown (c_X12_thrown e3) rfl rfl rfl (ok_M rfl) rfl rfl rfl ?_
  refine rl_i5 dL_law_1807 ?_
  refine ar_ic_eq 1814 dL_law_1809 (by decide) (fun c1 => ?_) (fun c1 => ?_)
  · replace H := wp_t c1 H
    refine rl_i5 dL_law_1814 ?_
    refine ar_if_ne 1831 dL_law_1816 (by decide) (fun c2 => ?_) (fun c2 => ?_)
    · replace H := wp_f c2 H
      refine ar_goto 2109 dL_law_1831 (by decide) ?_
      replace H := wp_s H
      refine rn_m_4 (v := x4 + iI (6)) dL_law_2109 rfl trivial rfl ?_
      refine ar_goto 23 dL_law_2112 (by decide) ?_
      exact am_V.wk (am_s (am_s (am_s (am_s (am_s (am_n (am_n (am_n (am_n am_0))))))))) (am_V.up (by omega) (by omega) hc9 hs9 H)
    · replace H := wp_t c2 H
      refine rl_a3 dL_law_1819 ?_
      refine ar_iconst (iI (0)) dL_law_1820 rfl ?_
      obtain ⟨b3, H⟩ := wp_g H
      refine ar_lald dL_law_1821 rfl (ok_X rfl) (ib_in b3) ?_
      refine rl_i6 dL_law_1822 ?_
      refine ar_i2l dL_law_1824 ?_
      refine ar_lcmp dL_law_1825 ?_
      refine ar_if_eq 1831 dL_law_1826 (by decide) (fun c3 => ?_) (fun c3 => ?_)
      · replace H := wp_t c3 H
        refine ar_goto 2109 dL_law_1831 (by decide) ?_
        replace H := wp_s H
        refine rn_m_4 (v := x4 + iI (6)) dL_law_2109 rfl trivial rfl ?_
        refine ar_goto 23 dL_law_2112 (by decide) ?_
        exact am_V.wk (am_s (am_s (am_s (am_s (am_s (am_n (am_n (am_n (am_n am_0))))))))) (am_V.up (by omega) (by omega) hc9 hs9 H)
      · replace H := wp_f c3 H
        refine ar_iconst (iI (0)) dL_law_1829 rfl ?_
        exact (wp_n H).elim
  · replace H := wp_f c1 H
    refine ar_iconst (iI (0)) dL_law_1812 rfl ?_
    exact (wp_n H).elim
noncomputable def law_36 (L : Nat) (xs : Nat → Int32) (x4 : Int32) (h : am_H) : Option am_H :=
  if ib (x4 + (iI (1))) L then (if ib (x4 + (iI (2))) L then ((f_L_setRadius (xs ((x4 + (iI (1)))).toNatClampNeg) (xs ((x4 + (iI (2)))).toNatClampNeg) h).bind (fun a1 => if ib (x4 + (iI (1))) L then (if ib (x4 + (iI (2))) L then ((f_X12_setRadius (xs ((x4 + (iI (1)))).toNatClampNeg) (xs ((x4 + (iI (2)))).toNatClampNeg) a1.2).bind (fun a2 => (f_X12_thrown a2.2).bind (fun a3 => if a3 = a1.1 then (if a1.1 = 0 then (if ib (iI (0)) 1 then (if (lg_cmp (a2.2.2.1 (.inl 1) 18 ((iI (0))).toNatClampNeg) a2.1.toInt64) = 0 then (some a2.2) else (none)) else none) else (some a2.2)) else (none)))) else none) else none)) else none) else none
theorem c_law_36 {mc ms b L : Nat} {xs : Nat → Int32} {Tm : Nat → List am_v → am_H → Prop} {cs ss : Nat} {x4 : Int32} {h : am_H} (hc9 : cs + 1 ≤ mc) (hs9 : ss + 6 ≤ ms) (H : wp (law_36 L xs x4 h) (fun h9 => am_V RL cL_law 9 (some .boolean) 14 532 mc ms (am_scr b L xs) Tm (cs + 1) (ss + 6) 23 [some (.inl (.ref b)), some (am_r (.inl 1) 0), some (am_r (.inl 0) 0), some (am_r (.inl 1) 18), some (am_i (x4 + iI (6))), none, none, none, none] [] h9)) : am_V RL cL_law 9 (some .boolean) 14 532 mc ms (am_scr b L xs) Tm cs ss 1834 [some (.inl (.ref b)), some (am_r (.inl 1) 0), some (am_r (.inl 0) 0), some (am_r (.inl 1) 18), some (am_i x4), none, none, none, none] [] h := by
  unfold law_36 at H
  refine rl_a1 dL_law_1834 ?_
  refine ar_aloadS dL_law_1835 ?_
  refine rl_i4 dL_law_1836 ?_
  refine ar_iconst (iI (1)) dL_law_1838 rfl ?_
  refine ar_iadd dL_law_1839 ?_
  obtain ⟨b1, H⟩ := wp_g H
  refine ar_sld dL_law_1840 (ib_in b1) ?_
  refine ar_aloadS dL_law_1841 ?_
  refine rl_i4 dL_law_1842 ?_
  refine ar_iconst (iI (2)) dL_law_1844 rfl ?_
  refine ar_iadd dL_law_1845 ?_
  obtain ⟨b2, H⟩ := wp_g H
  refine ar_sld dL_law_1846 (ib_in b2) ?_
  refine rl_a3 dL_law_1847 ?_
  obtain ⟨a1, e1, H⟩ := wp_b H
  refine ar_callSW (As := [am_r (.inl 1) 0, am_i (xs ((x4 + (iI (1)))).toNatClampNeg), am_i (xs ((x4 + (iI (2)))).toNatClampNeg), am_r (.inl 1) 18]) dL_law_1848 ml_L_238 mc_L_setRadius (c_L_setRadius e1) rfl (ble rfl) (ble rfl) hc9 hs9 (am_ct_le rfl) (fun r h9 hq => ?_)
  obtain ⟨rfl, rfl⟩ := hq
  refine rs_i5 dL_law_1851 rfl trivial ?_
  refine rl_a2 dL_law_1853 ?_
  refine ar_aloadS dL_law_1854 ?_
  refine rl_i4 dL_law_1855 ?_
  refine ar_iconst (iI (1)) dL_law_1857 rfl ?_
  refine ar_iadd dL_law_1858 ?_
  obtain ⟨b3, H⟩ := wp_g H
  refine ar_sld dL_law_1859 (ib_in b3) ?_
  refine ar_aloadS dL_law_1860 ?_
  refine rl_i4 dL_law_1861 ?_
  refine ar_iconst (iI (2)) dL_law_1863 rfl ?_
  refine ar_iadd dL_law_1864 ?_
  obtain ⟨b4, H⟩ := wp_g H
  refine ar_sld dL_law_1865 (ib_in b4) ?_
  obtain ⟨a2, e2, H⟩ := wp_b H
  refine rc_V2i dL_law_1866 ml_L_240 mc_X12_setRadius (c_X12_setRadius e2) rfl rfl rfl (ok_M rfl) rfl rfl rfl ?_
  refine rs_i6 dL_law_1869 rfl trivial ?_
  refine rl_a2 dL_law_1871 ?_
  obtain ⟨a3, e3, H⟩ := wp_b H
  refine rc_V0i dL_law_1872 ml_L_113 mc_X12_thrown (c_X12_thrown e3) rfl rfl rfl (ok_M rfl) rfl rfl rfl ?_
  refine rl_i5 dL_law_1875 ?_
  refine ar_ic_eq 1882 dL_law_1877 (by decide) (fun c1 => ?_) (fun c1 => ?_)
  · replace H := wp_t c1 H
    refine rl_i5 dL_law_1882 ?_
    refine ar_if_ne 1899 dL_law_1884 (by decide) (fun c2 => ?_) (fun c2 => ?_)
    · replace H := wp_f c2 H
      refine ar_goto 2109 dL_law_1899 (by decide) ?_
      replace H := wp_s H
      refine rn_m_4 (v := x4 + iI (6)) dL_law_2109 rfl trivial rfl ?_
      refine ar_goto 23 dL_law_2112 (by decide) ?_
      exact am_V.wk (am_s (am_s (am_s (am_s (am_s (am_n (am_n (am_n (am_n am_0))))))))) (am_V.up (by omega) (by omega) hc9 hs9 H)
    · replace H := wp_t c2 H
      refine rl_a3 dL_law_1887 ?_
      refine ar_iconst (iI (0)) dL_law_1888 rfl ?_
      obtain ⟨b5, H⟩ := wp_g H
      refine ar_lald dL_law_1889 rfl (ok_X rfl) (ib_in b5) ?_
      refine rl_i6 dL_law_1890 ?_
      refine ar_i2l dL_law_1892 ?_
      refine ar_lcmp dL_law_1893 ?_
      refine ar_if_eq 1899 dL_law_1894 (by decide) (fun c3 => ?_) (fun c3 => ?_)
      · replace H := wp_t c3 H
        refine ar_goto 2109 dL_law_1899 (by decide) ?_
        replace H := wp_s H
        refine rn_m_4 (v := x4 + iI (6)) dL_law_2109 rfl trivial rfl ?_
        refine ar_goto 23 dL_law_2112 (by decide) ?_
        exact am_V.wk (am_s (am_s (am_s (am_s (am_s (am_n (am_n (am_n (am_n am_0))))))))) (am_V.up (by omega) (by omega) hc9 hs9 H)
      · replace H := wp_f c3 H
        refine ar_iconst (iI (0)) dL_law_1897 rfl ?_
        exact (wp_n H).elim
  · replace H := wp_f c1 H
    refine ar_iconst (iI (0)) dL_law_1880 rfl ?_
    exact (wp_n H).elim
noncomputable def law_37 (L : Nat) (xs : Nat → Int32) (x4 : Int32) (h : am_H) : Option am_H :=
  if ib (x4 + (iI (1))) L then (if ib (x4 + (iI (2))) L then ((f_L_setWidth (xs ((x4 + (iI (1)))).toNatClampNeg) (xs ((x4 + (iI (2)))).toNatClampNeg) h).bind (fun a1 => if ib (x4 + (iI (1))) L then (if ib (x4 + (iI (2))) L then ((f_X12_setWidth (xs ((x4 + (iI (1)))).toNatClampNeg) (xs ((x4 + (iI (2)))).toNatClampNeg) a1.2).bind (fun a2 => (f_X12_thrown a2.2).bind (fun a3 => if a3 = a1.1 then (if a1.1 = 0 then (if ib (iI (0)) 1 then (if (lg_cmp (a2.2.2.1 (.inl 1) 18 ((iI (0))).toNatClampNeg) a2.1.toInt64) = 0 then (some a2.2) else (none)) else none) else (some a2.2)) else (none)))) else none) else none)) else none) else none
theorem c_law_37 {mc ms b L : Nat} {xs : Nat → Int32} {Tm : Nat → List am_v → am_H → Prop} {cs ss : Nat} {x4 : Int32} {h : am_H} (hc9 : cs + 1 ≤ mc) (hs9 : ss + 6 ≤ ms) (H : wp (law_37 L xs x4 h) (fun h9 => am_V RL cL_law 9 (some .boolean) 14 532 mc ms (am_scr b L xs) Tm (cs + 1) (ss + 6) 23 [some (.inl (.ref b)), some (am_r (.inl 1) 0), some (am_r (.inl 0) 0), some (am_r (.inl 1) 18), some (am_i (x4 + iI (6))), none, none, none, none] [] h9)) : am_V RL cL_law 9 (some .boolean) 14 532 mc ms (am_scr b L xs) Tm cs ss 1902 [some (.inl (.ref b)), some (am_r (.inl 1) 0), some (am_r (.inl 0) 0), some (am_r (.inl 1) 18), some (am_i x4), none, none, none, none] [] h := by
  unfold law_37 at H
  refine rl_a1 dL_law_1902 ?_
  refine ar_aloadS dL_law_1903 ?_
  refine rl_i4 dL_law_1904 ?_
  refine ar_iconst (iI (1)) dL_law_1906 rfl ?_
  refine ar_iadd dL_law_1907 ?_
  obtain ⟨b1, H⟩ := wp_g H
  refine ar_sld dL_law_1908 (ib_in b1) ?_
  refine ar_aloadS dL_law_1909 ?_
  refine rl_i4 dL_law_1910 ?_
  refine ar_iconst (iI (2)) dL_law_1912 rfl ?_
  refine ar_iadd dL_law_1913 ?_
  obtain ⟨b2, H⟩ := wp_g H
  refine ar_sld dL_law_1914 (ib_in b2) ?_
  refine rl_a3 dL_law_1915 ?_
  obtain ⟨a1, e1, H⟩ := wp_b H
  refine ar_callSW (As := [am_r (.inl 1) 0, am_i (xs ((x4 + (iI (1)))).toNatClampNeg), am_i (xs ((x4 + (iI (2)))).toNatClampNeg), am_r (.inl 1) 18]) dL_law_1916 ml_L_241 mc_L_setWidth (c_L_setWidth e1) rfl (ble rfl) (ble rfl) hc9 hs9 (am_ct_le rfl) (fun r h9 hq => ?_)
  obtain ⟨rfl, rfl⟩ := hq
  refine rs_i5 dL_law_1919 rfl trivial ?_
  refine rl_a2 dL_law_1921 ?_
  refine ar_aloadS dL_law_1922 ?_
  refine rl_i4 dL_law_1923 ?_
  refine ar_iconst (iI (1)) dL_law_1925 rfl ?_
  refine ar_iadd dL_law_1926 ?_
  obtain ⟨b3, H⟩ := wp_g H
  refine ar_sld dL_law_1927 (ib_in b3) ?_
  refine ar_aloadS dL_law_1928 ?_
  refine rl_i4 dL_law_1929 ?_
  refine ar_iconst (iI (2)) dL_law_1931 rfl ?_
  refine ar_iadd dL_law_1932 ?_
  obtain ⟨b4, H⟩ := wp_g H
  refine ar_sld dL_law_1933 (ib_in b4) ?_
  obtain ⟨a2, e2, H⟩ := wp_b H
  refine rc_V2i dL_law_1934 ml_L_243 mc_X12_setWidth (c_X12_setWidth e2) rfl rfl rfl (ok_M rfl) rfl rfl rfl ?_
  refine rs_i6 dL_law_1937 rfl trivial ?_
  refine rl_a2 dL_law_1939 ?_
  obtain ⟨a3, e3, H⟩ := wp_b H
  refine rc_V0i dL_law_1940 ml_L_113 mc_X12_thrown (c_X12_thrown e3) rfl rfl rfl (ok_M rfl) rfl rfl rfl ?_
  refine rl_i5 dL_law_1943 ?_
  refine ar_ic_eq 1950 dL_law_1945 (by decide) (fun c1 => ?_) (fun c1 => ?_)
  · replace H := wp_t c1 H
    refine rl_i5 dL_law_1950 ?_
    refine ar_if_ne 1967 dL_law_1952 (by decide) (fun c2 => ?_) (fun c2 => ?_)
    · replace H := wp_f c2 H
      refine ar_goto 2109 dL_law_1967 (by decide) ?_
      replace H := wp_s H
      refine rn_m_4 (v := x4 + iI (6)) dL_law_2109 rfl trivial rfl ?_
      refine ar_goto 23 dL_law_2112 (by decide) ?_
      exact am_V.wk (am_s (am_s (am_s (am_s (am_s (am_n (am_n (am_n (am_n am_0))))))))) (am_V.up (by omega) (by omega) hc9 hs9 H)
    · replace H := wp_t c2 H
      refine rl_a3 dL_law_1955 ?_
      refine ar_iconst (iI (0)) dL_law_1956 rfl ?_
      obtain ⟨b5, H⟩ := wp_g H
      refine ar_lald dL_law_1957 rfl (ok_X rfl) (ib_in b5) ?_
      refine rl_i6 dL_law_1958 ?_
      refine ar_i2l dL_law_1960 ?_
      refine ar_lcmp dL_law_1961 ?_
      refine ar_if_eq 1967 dL_law_1962 (by decide) (fun c3 => ?_) (fun c3 => ?_)
      · replace H := wp_t c3 H
        refine ar_goto 2109 dL_law_1967 (by decide) ?_
        replace H := wp_s H
        refine rn_m_4 (v := x4 + iI (6)) dL_law_2109 rfl trivial rfl ?_
        refine ar_goto 23 dL_law_2112 (by decide) ?_
        exact am_V.wk (am_s (am_s (am_s (am_s (am_s (am_n (am_n (am_n (am_n am_0))))))))) (am_V.up (by omega) (by omega) hc9 hs9 H)
      · replace H := wp_f c3 H
        refine ar_iconst (iI (0)) dL_law_1965 rfl ?_
        exact (wp_n H).elim
  · replace H := wp_f c1 H
    refine ar_iconst (iI (0)) dL_law_1948 rfl ?_
    exact (wp_n H).elim
noncomputable def law_38 (L : Nat) (xs : Nat → Int32) (x4 : Int32) (h : am_H) : Option am_H :=
  (f_X11_report h).bind (fun a1 => (f_X12_report a1.2).bind (fun a2 => if a1.1 = a2.1 then (some a2.2) else (none)))
theorem c_law_38 {mc ms b L : Nat} {xs : Nat → Int32} {Tm : Nat → List am_v → am_H → Prop} {cs ss : Nat} {x4 : Int32} {h : am_H} (hc9 : cs + 1 ≤ mc) (hs9 : ss + 6 ≤ ms) (H : wp (law_38 L xs x4 h) (fun h9 => am_V RL cL_law 9 (some .boolean) 14 532 mc ms (am_scr b L xs) Tm (cs + 1) (ss + 6) 23 [some (.inl (.ref b)), some (am_r (.inl 1) 0), some (am_r (.inl 0) 0), some (am_r (.inl 1) 18), some (am_i (x4 + iI (6))), none, none, none, none] [] h9)) : am_V RL cL_law 9 (some .boolean) 14 532 mc ms (am_scr b L xs) Tm cs ss 1970 [some (.inl (.ref b)), some (am_r (.inl 1) 0), some (am_r (.inl 0) 0), some (am_r (.inl 1) 18), some (am_i x4), none, none, none, none] [] h := by
  unfold law_38 at H
  refine rl_a1 dL_law_1970 ?_
  obtain ⟨a1, e1, H⟩ := wp_b H
  refine rc_V0i dL_law_1971 ml_L_244 mc_X11_report (c_X11_report e1) rfl rfl rfl (ok_X rfl) rfl rfl rfl ?_
  refine rl_a2 dL_law_1974 ?_
  obtain ⟨a2, e2, H⟩ := wp_b H
  refine rc_V0i dL_law_1975 ml_L_247 mc_X12_report (c_X12_report e2) rfl rfl rfl (ok_M rfl) rfl rfl rfl ?_
  refine ar_ic_eq 2109 dL_law_1978 (by decide) (fun c1 => ?_) (fun c1 => ?_)
  · replace H := wp_t c1 H
    replace H := wp_s H
    refine rn_m_4 (v := x4 + iI (6)) dL_law_2109 rfl trivial rfl ?_
    refine ar_goto 23 dL_law_2112 (by decide) ?_
    exact am_V.wk (am_s (am_s (am_s (am_s (am_s (am_n (am_n (am_n (am_n am_0))))))))) (am_V.up (by omega) (by omega) hc9 hs9 H)
  · replace H := wp_f c1 H
    refine ar_iconst (iI (0)) dL_law_1981 rfl ?_
    exact (wp_n H).elim
noncomputable def law_39 (L : Nat) (xs : Nat → Int32) (x4 : Int32) (h : am_H) : Option am_H :=
  if ib (x4 + (iI (1))) L then ((f_L_reportByte (xs ((x4 + (iI (1)))).toNatClampNeg) h).bind (fun a1 => if ib (x4 + (iI (1))) L then ((f_X12_reportByte (xs ((x4 + (iI (1)))).toNatClampNeg) a1.2).bind (fun a2 => (f_X12_thrown a2.2).bind (fun a3 => if a3 = a1.1 then (if a1.1 = 0 then (if ib (iI (0)) 1 then (if (lg_cmp (a2.2.2.1 (.inl 1) 18 ((iI (0))).toNatClampNeg) a2.1.toInt64) = 0 then (some a2.2) else (none)) else none) else (some a2.2)) else (none)))) else none)) else none
theorem c_law_39 {mc ms b L : Nat} {xs : Nat → Int32} {Tm : Nat → List am_v → am_H → Prop} {cs ss : Nat} {x4 : Int32} {h : am_H} (hc9 : cs + 1 ≤ mc) (hs9 : ss + 6 ≤ ms) (H : wp (law_39 L xs x4 h) (fun h9 => am_V RL cL_law 9 (some .boolean) 14 532 mc ms (am_scr b L xs) Tm (cs + 1) (ss + 6) 23 [some (.inl (.ref b)), some (am_r (.inl 1) 0), some (am_r (.inl 0) 0), some (am_r (.inl 1) 18), some (am_i (x4 + iI (6))), none, none, none, none] [] h9)) : am_V RL cL_law 9 (some .boolean) 14 532 mc ms (am_scr b L xs) Tm cs ss 1983 [some (.inl (.ref b)), some (am_r (.inl 1) 0), some (am_r (.inl 0) 0), some (am_r (.inl 1) 18), some (am_i x4), none, none, none, none] [] h := by
  unfold law_39 at H
  refine rl_a1 dL_law_1983 ?_
  refine ar_aloadS dL_law_1984 ?_
  refine rl_i4 dL_law_1985 ?_
  refine ar_iconst (iI (1)) dL_law_1987 rfl ?_
  refine ar_iadd dL_law_1988 ?_
  obtain ⟨b1, H⟩ := wp_g H
  refine ar_sld dL_law_1989 (ib_in b1) ?_
  refine rl_a3 dL_law_1990 ?_
  obtain ⟨a1, e1, H⟩ := wp_b H
  refine ar_callSW (As := [am_r (.inl 1) 0, am_i (xs ((x4 + (iI (1)))).toNatClampNeg), am_r (.inl 1) 18]) dL_law_1991 ml_L_248 mc_L_reportByte (c_L_reportByte e1) rfl (ble rfl) (ble rfl) hc9 hs9 (am_ct_le rfl) (fun r h9 hq => ?_)
  obtain ⟨rfl, rfl⟩ := hq
  refine rs_i5 dL_law_1994 rfl trivial ?_
  refine rl_a2 dL_law_1996 ?_
  refine ar_aloadS dL_law_1997 ?_
  refine rl_i4 dL_law_1998 ?_
  refine ar_iconst (iI (1)) dL_law_2000 rfl ?_
  refine ar_iadd dL_law_2001 ?_
  obtain ⟨b2, H⟩ := wp_g H
  refine ar_sld dL_law_2002 (ib_in b2) ?_
  obtain ⟨a2, e2, H⟩ := wp_b H
  refine rc_V1i dL_law_2003 ml_L_250 mc_X12_reportByte (c_X12_reportByte e2) rfl rfl rfl (ok_M rfl) rfl rfl rfl ?_
  refine rs_i6 dL_law_2006 rfl trivial ?_
  refine rl_a2 dL_law_2008 ?_
  obtain ⟨a3, e3, H⟩ := wp_b H
  refine rc_V0i dL_law_2009 ml_L_113 mc_X12_thrown (c_X12_thrown e3) rfl rfl rfl (ok_M rfl) rfl rfl rfl ?_
  refine rl_i5 dL_law_2012 ?_
  refine ar_ic_eq 2019 dL_law_2014 (by decide) (fun c1 => ?_) (fun c1 => ?_)
  · replace H := wp_t c1 H
    refine rl_i5 dL_law_2019 ?_
    refine ar_if_ne 2036 dL_law_2021 (by decide) (fun c2 => ?_) (fun c2 => ?_)
    · replace H := wp_f c2 H
      refine ar_goto 2109 dL_law_2036 (by decide) ?_
      replace H := wp_s H
      refine rn_m_4 (v := x4 + iI (6)) dL_law_2109 rfl trivial rfl ?_
      refine ar_goto 23 dL_law_2112 (by decide) ?_
      exact am_V.wk (am_s (am_s (am_s (am_s (am_s (am_n (am_n (am_n (am_n am_0))))))))) (am_V.up (by omega) (by omega) hc9 hs9 H)
    · replace H := wp_t c2 H
      refine rl_a3 dL_law_2024 ?_
      refine ar_iconst (iI (0)) dL_law_2025 rfl ?_
      obtain ⟨b3, H⟩ := wp_g H
      refine ar_lald dL_law_2026 rfl (ok_X rfl) (ib_in b3) ?_
      refine rl_i6 dL_law_2027 ?_
      refine ar_i2l dL_law_2029 ?_
      refine ar_lcmp dL_law_2030 ?_
      refine ar_if_eq 2036 dL_law_2031 (by decide) (fun c3 => ?_) (fun c3 => ?_)
      · replace H := wp_t c3 H
        refine ar_goto 2109 dL_law_2036 (by decide) ?_
        replace H := wp_s H
        refine rn_m_4 (v := x4 + iI (6)) dL_law_2109 rfl trivial rfl ?_
        refine ar_goto 23 dL_law_2112 (by decide) ?_
        exact am_V.wk (am_s (am_s (am_s (am_s (am_s (am_n (am_n (am_n (am_n am_0))))))))) (am_V.up (by omega) (by omega) hc9 hs9 H)
      · replace H := wp_f c3 H
        refine ar_iconst (iI (0)) dL_law_2034 rfl ?_
        exact (wp_n H).elim
  · replace H := wp_f c1 H
    refine ar_iconst (iI (0)) dL_law_2017 rfl ?_
    exact (wp_n H).elim
noncomputable def law_40 (L : Nat) (xs : Nat → Int32) (x4 : Int32) (h : am_H) : Option am_H :=
  (f_X11_undo h).bind (fun a1 => (f_X12_undo a1.2).bind (fun a2 => if a1.1 = a2.1 then (some a2.2) else (none)))
theorem c_law_40 {mc ms b L : Nat} {xs : Nat → Int32} {Tm : Nat → List am_v → am_H → Prop} {cs ss : Nat} {x4 : Int32} {h : am_H} (hc9 : cs + 1 ≤ mc) (hs9 : ss + 6 ≤ ms) (H : wp (law_40 L xs x4 h) (fun h9 => am_V RL cL_law 9 (some .boolean) 14 532 mc ms (am_scr b L xs) Tm (cs + 1) (ss + 6) 23 [some (.inl (.ref b)), some (am_r (.inl 1) 0), some (am_r (.inl 0) 0), some (am_r (.inl 1) 18), some (am_i (x4 + iI (6))), none, none, none, none] [] h9)) : am_V RL cL_law 9 (some .boolean) 14 532 mc ms (am_scr b L xs) Tm cs ss 2039 [some (.inl (.ref b)), some (am_r (.inl 1) 0), some (am_r (.inl 0) 0), some (am_r (.inl 1) 18), some (am_i x4), none, none, none, none] [] h := by
  unfold law_40 at H
  refine rl_a1 dL_law_2039 ?_
  obtain ⟨a1, e1, H⟩ := wp_b H
  refine rc_V0i dL_law_2040 ml_L_251 mc_X11_undo (c_X11_undo e1) rfl rfl rfl (ok_X rfl) rfl rfl rfl ?_
  refine rl_a2 dL_law_2043 ?_
  obtain ⟨a2, e2, H⟩ := wp_b H
  refine rc_V0i dL_law_2044 ml_L_254 mc_X12_undo (c_X12_undo e2) rfl rfl rfl (ok_M rfl) rfl rfl rfl ?_
  refine ar_ic_eq 2109 dL_law_2047 (by decide) (fun c1 => ?_) (fun c1 => ?_)
  · replace H := wp_t c1 H
    replace H := wp_s H
    refine rn_m_4 (v := x4 + iI (6)) dL_law_2109 rfl trivial rfl ?_
    refine ar_goto 23 dL_law_2112 (by decide) ?_
    exact am_V.wk (am_s (am_s (am_s (am_s (am_s (am_n (am_n (am_n (am_n am_0))))))))) (am_V.up (by omega) (by omega) hc9 hs9 H)
  · replace H := wp_f c1 H
    refine ar_iconst (iI (0)) dL_law_2050 rfl ?_
    exact (wp_n H).elim
noncomputable def law_41 (L : Nat) (xs : Nat → Int32) (x4 : Int32) (h : am_H) : Option am_H :=
  (f_X11_save h).bind (fun a1 => (f_X12_save a1.2).bind (fun a2 => if a1.1 = a2.1 then (some a2.2) else (none)))
theorem c_law_41 {mc ms b L : Nat} {xs : Nat → Int32} {Tm : Nat → List am_v → am_H → Prop} {cs ss : Nat} {x4 : Int32} {h : am_H} (hc9 : cs + 1 ≤ mc) (hs9 : ss + 6 ≤ ms) (H : wp (law_41 L xs x4 h) (fun h9 => am_V RL cL_law 9 (some .boolean) 14 532 mc ms (am_scr b L xs) Tm (cs + 1) (ss + 6) 23 [some (.inl (.ref b)), some (am_r (.inl 1) 0), some (am_r (.inl 0) 0), some (am_r (.inl 1) 18), some (am_i (x4 + iI (6))), none, none, none, none] [] h9)) : am_V RL cL_law 9 (some .boolean) 14 532 mc ms (am_scr b L xs) Tm cs ss 2052 [some (.inl (.ref b)), some (am_r (.inl 1) 0), some (am_r (.inl 0) 0), some (am_r (.inl 1) 18), some (am_i x4), none, none, none, none] [] h := by
  unfold law_41 at H
  refine rl_a1 dL_law_2052 ?_
  obtain ⟨a1, e1, H⟩ := wp_b H
  refine rc_V0i dL_law_2053 ml_L_255 mc_X11_save (c_X11_save e1) rfl rfl rfl (ok_X rfl) rfl rfl rfl ?_
  refine rl_a2 dL_law_2056 ?_
  obtain ⟨a2, e2, H⟩ := wp_b H
  refine rc_V0i dL_law_2057 ml_L_258 mc_X12_save (c_X12_save e2) rfl rfl rfl (ok_M rfl) rfl rfl rfl ?_
  refine ar_ic_eq 2109 dL_law_2060 (by decide) (fun c1 => ?_) (fun c1 => ?_)
  · replace H := wp_t c1 H
    replace H := wp_s H
    refine rn_m_4 (v := x4 + iI (6)) dL_law_2109 rfl trivial rfl ?_
    refine ar_goto 23 dL_law_2112 (by decide) ?_
    exact am_V.wk (am_s (am_s (am_s (am_s (am_s (am_n (am_n (am_n (am_n am_0))))))))) (am_V.up (by omega) (by omega) hc9 hs9 H)
  · replace H := wp_f c1 H
    refine ar_iconst (iI (0)) dL_law_2063 rfl ?_
    exact (wp_n H).elim
noncomputable def law_42 (L : Nat) (xs : Nat → Int32) (x4 : Int32) (h : am_H) : Option am_H :=
  (f_L_restore h).bind (fun a1 => (f_X12_restore a1.2).bind (fun a2 => (f_X12_thrown a2.2).bind (fun a3 => if a3 = a1.1 then (if a1.1 = 0 then (if ib (iI (0)) 1 then (if (lg_cmp (a2.2.2.1 (.inl 1) 18 ((iI (0))).toNatClampNeg) a2.1.toInt64) = 0 then (some a2.2) else (none)) else none) else (some a2.2)) else (none))))
theorem c_law_42 {mc ms b L : Nat} {xs : Nat → Int32} {Tm : Nat → List am_v → am_H → Prop} {cs ss : Nat} {x4 : Int32} {h : am_H} (hc9 : cs + 1 ≤ mc) (hs9 : ss + 6 ≤ ms) (H : wp (law_42 L xs x4 h) (fun h9 => am_V RL cL_law 9 (some .boolean) 14 532 mc ms (am_scr b L xs) Tm (cs + 1) (ss + 6) 23 [some (.inl (.ref b)), some (am_r (.inl 1) 0), some (am_r (.inl 0) 0), some (am_r (.inl 1) 18), some (am_i (x4 + iI (6))), none, none, none, none] [] h9)) : am_V RL cL_law 9 (some .boolean) 14 532 mc ms (am_scr b L xs) Tm cs ss 2065 [some (.inl (.ref b)), some (am_r (.inl 1) 0), some (am_r (.inl 0) 0), some (am_r (.inl 1) 18), some (am_i x4), none, none, none, none] [] h := by
  unfold law_42 at H
  refine rl_a1 dL_law_2065 ?_
  refine rl_a3 dL_law_2066 ?_
  obtain ⟨a1, e1, H⟩ := wp_b H
  refine ar_callSW (As := [am_r (.inl 1) 0, am_r (.inl 1) 18]) dL_law_2067 ml_L_259 mc_L_restore (c_L_restore e1) rfl (ble rfl) (ble rfl) hc9 hs9 (am_ct_le rfl) (fun r h9 hq => ?_)
  obtain ⟨rfl, rfl⟩ := hq
  refine rs_i5 dL_law_2070 rfl trivial ?_
  refine rl_a2 dL_law_2072 ?_
  obtain ⟨a2, e2, H⟩ := wp_b H
  refine rc_V0i dL_law_2073 ml_L_261 mc_X12_restore (c_X12_restore e2) rfl rfl rfl (ok_M rfl) rfl rfl rfl ?_
  refine rs_i6 dL_law_2076 rfl trivial ?_
  refine rl_a2 dL_law_2078 ?_
  obtain ⟨a3, e3, H⟩ := wp_b H
  refine rc_V0i dL_law_2079 ml_L_113 mc_X12_thrown (c_X12_thrown e3) rfl rfl rfl (ok_M rfl) rfl rfl rfl ?_
  refine rl_i5 dL_law_2082 ?_
  refine ar_ic_eq 2089 dL_law_2084 (by decide) (fun c1 => ?_) (fun c1 => ?_)
  · replace H := wp_t c1 H
    refine rl_i5 dL_law_2089 ?_
    refine ar_if_ne 2106 dL_law_2091 (by decide) (fun c2 => ?_) (fun c2 => ?_)
    · replace H := wp_f c2 H
      refine ar_goto 2109 dL_law_2106 (by decide) ?_
      replace H := wp_s H
      refine rn_m_4 (v := x4 + iI (6)) dL_law_2109 rfl trivial rfl ?_
      refine ar_goto 23 dL_law_2112 (by decide) ?_
      exact am_V.wk (am_s (am_s (am_s (am_s (am_s (am_n (am_n (am_n (am_n am_0))))))))) (am_V.up (by omega) (by omega) hc9 hs9 H)
    · replace H := wp_t c2 H
      refine rl_a3 dL_law_2094 ?_
      refine ar_iconst (iI (0)) dL_law_2095 rfl ?_
      obtain ⟨b1, H⟩ := wp_g H
      refine ar_lald dL_law_2096 rfl (ok_X rfl) (ib_in b1) ?_
      refine rl_i6 dL_law_2097 ?_
      refine ar_i2l dL_law_2099 ?_
      refine ar_lcmp dL_law_2100 ?_
      refine ar_if_eq 2106 dL_law_2101 (by decide) (fun c3 => ?_) (fun c3 => ?_)
      · replace H := wp_t c3 H
        refine ar_goto 2109 dL_law_2106 (by decide) ?_
        replace H := wp_s H
        refine rn_m_4 (v := x4 + iI (6)) dL_law_2109 rfl trivial rfl ?_
        refine ar_goto 23 dL_law_2112 (by decide) ?_
        exact am_V.wk (am_s (am_s (am_s (am_s (am_s (am_n (am_n (am_n (am_n am_0))))))))) (am_V.up (by omega) (by omega) hc9 hs9 H)
      · replace H := wp_f c3 H
        refine ar_iconst (iI (0)) dL_law_2104 rfl ?_
        exact (wp_n H).elim
  · replace H := wp_f c1 H
    refine ar_iconst (iI (0)) dL_law_2087 rfl ?_
    exact (wp_n H).elim
noncomputable def law_st (L : Nat) (xs : Nat → Int32) (x4 : Int32) (h : am_H) : Nat → Option am_H
  | 0 => law_0 L xs x4 h
  | 1 => law_1 L xs x4 h
  | 2 => law_2 L xs x4 h
  | 3 => law_3 L xs x4 h
  | 4 => law_4 L xs x4 h
  | 5 => law_5 L xs x4 h
  | 6 => law_6 L xs x4 h
  | 7 => law_7 L xs x4 h
  | 8 => law_8 L xs x4 h
  | 9 => law_9 L xs x4 h
  | 10 => law_10 L xs x4 h
  | 11 => law_11 L xs x4 h
  | 12 => law_12 L xs x4 h
  | 13 => law_13 L xs x4 h
  | 14 => law_14 L xs x4 h
  | 15 => law_15 L xs x4 h
  | 16 => law_16 L xs x4 h
  | 17 => law_17 L xs x4 h
  | 18 => law_18 L xs x4 h
  | 19 => law_19 L xs x4 h
  | 20 => law_20 L xs x4 h
  | 21 => law_21 L xs x4 h
  | 22 => law_22 L xs x4 h
  | 23 => law_23 L xs x4 h
  | 24 => law_24 L xs x4 h
  | 25 => law_25 L xs x4 h
  | 26 => law_26 L xs x4 h
  | 27 => law_27 L xs x4 h
  | 28 => law_28 L xs x4 h
  | 29 => law_29 L xs x4 h
  | 30 => law_30 L xs x4 h
  | 31 => law_31 L xs x4 h
  | 32 => law_32 L xs x4 h
  | 33 => law_33 L xs x4 h
  | 34 => law_34 L xs x4 h
  | 35 => law_35 L xs x4 h
  | 36 => law_36 L xs x4 h
  | 37 => law_37 L xs x4 h
  | 38 => law_38 L xs x4 h
  | 39 => law_39 L xs x4 h
  | 40 => law_40 L xs x4 h
  | 41 => law_41 L xs x4 h
  | 42 => law_42 L xs x4 h
  | _ => some h
theorem c_law_st {mc ms b L : Nat} {xs : Nat → Int32} {Tm : Nat → List am_v → am_H → Prop} {cs ss : Nat} {x4 : Int32} {h : am_H} (hc9 : cs + 1 ≤ mc) (hs9 : ss + 6 ≤ ms) (hle : ¬ Int32.ofNat L - iI (6) < x4) (hin : ib x4 L) (z : Nat) (hz : (xs x4.toNatClampNeg &&& iI (63)).toInt = z) (H : wp (law_st L xs x4 h z) (fun h9 => am_V RL cL_law 9 (some .boolean) 14 532 mc ms (am_scr b L xs) Tm (cs + 1) (ss + 6) 23 [some (.inl (.ref b)), some (am_r (.inl 1) 0), some (am_r (.inl 0) 0), some (am_r (.inl 1) 18), some (am_i (x4 + iI (6))), none, none, none, none] [] h9)) : am_V RL cL_law 9 (some .boolean) 14 532 mc ms (am_scr b L xs) Tm cs ss 23 [some (.inl (.ref b)), some (am_r (.inl 1) 0), some (am_r (.inl 0) 0), some (am_r (.inl 1) 18), some (am_i x4), none, none, none, none] [] h := by
  refine rl_i4 dL_law_23 ?_
  refine ar_aloadS dL_law_25 ?_
  refine ar_slen dL_law_26 ?_
  refine ar_bipush (iI (6)) dL_law_27 rfl ?_
  refine ar_isub dL_law_29 ?_
  refine ar_ic_gt 2115 dL_law_30 (by decide) (fun c1 => absurd c1 hle) (fun c1 => ?_)
  refine ar_aloadS dL_law_33 ?_
  refine rl_i4 dL_law_34 ?_
  refine ar_sld dL_law_36 (ib_in hin) ?_
  refine ar_bipush (iI (63)) dL_law_37 rfl ?_
  refine ar_iand dL_law_39 ?_
  match z, hz, H with
  | 0, hz, H => exact ar_swIn 228 dL_law_40 (by omega) (by omega) (by rw [hz]; rfl) (by decide) (c_law_0 hc9 hs9 H)
  | 1, hz, H => exact ar_swIn 332 dL_law_40 (by omega) (by omega) (by rw [hz]; rfl) (by decide) (c_law_1 hc9 hs9 H)
  | 2, hz, H => exact ar_swIn 388 dL_law_40 (by omega) (by omega) (by rw [hz]; rfl) (by decide) (c_law_2 hc9 hs9 H)
  | 3, hz, H => exact ar_swIn 432 dL_law_40 (by omega) (by omega) (by rw [hz]; rfl) (by decide) (c_law_3 hc9 hs9 H)
  | 4, hz, H => exact ar_swIn 476 dL_law_40 (by omega) (by omega) (by rw [hz]; rfl) (by decide) (c_law_4 hc9 hs9 H)
  | 5, hz, H => exact ar_swIn 489 dL_law_40 (by omega) (by omega) (by rw [hz]; rfl) (by decide) (c_law_5 hc9 hs9 H)
  | 6, hz, H => exact ar_swIn 502 dL_law_40 (by omega) (by omega) (by rw [hz]; rfl) (by decide) (c_law_6 hc9 hs9 H)
  | 7, hz, H => exact ar_swIn 558 dL_law_40 (by omega) (by omega) (by rw [hz]; rfl) (by decide) (c_law_7 hc9 hs9 H)
  | 8, hz, H => exact ar_swIn 626 dL_law_40 (by omega) (by omega) (by rw [hz]; rfl) (by decide) (c_law_8 hc9 hs9 H)
  | 9, hz, H => exact ar_swIn 694 dL_law_40 (by omega) (by omega) (by rw [hz]; rfl) (by decide) (c_law_9 hc9 hs9 H)
  | 10, hz, H => exact ar_swIn 762 dL_law_40 (by omega) (by omega) (by rw [hz]; rfl) (by decide) (c_law_10 hc9 hs9 H)
  | 11, hz, H => exact ar_swIn 830 dL_law_40 (by omega) (by omega) (by rw [hz]; rfl) (by decide) (c_law_11 hc9 hs9 H)
  | 12, hz, H => exact ar_swIn 886 dL_law_40 (by omega) (by omega) (by rw [hz]; rfl) (by decide) (c_law_12 hc9 hs9 H)
  | 13, hz, H => exact ar_swIn 942 dL_law_40 (by omega) (by omega) (by rw [hz]; rfl) (by decide) (c_law_13 hc9 hs9 H)
  | 14, hz, H => exact ar_swIn 998 dL_law_40 (by omega) (by omega) (by rw [hz]; rfl) (by decide) (c_law_14 hc9 hs9 H)
  | 15, hz, H => exact ar_swIn 1011 dL_law_40 (by omega) (by omega) (by rw [hz]; rfl) (by decide) (c_law_15 hc9 hs9 H)
  | 16, hz, H => exact ar_swIn 1067 dL_law_40 (by omega) (by omega) (by rw [hz]; rfl) (by decide) (c_law_16 hc9 hs9 H)
  | 17, hz, H => exact ar_swIn 1080 dL_law_40 (by omega) (by omega) (by rw [hz]; rfl) (by decide) (c_law_17 hc9 hs9 H)
  | 18, hz, H => exact ar_swIn 1093 dL_law_40 (by omega) (by omega) (by rw [hz]; rfl) (by decide) (c_law_18 hc9 hs9 H)
  | 19, hz, H => exact ar_swIn 1149 dL_law_40 (by omega) (by omega) (by rw [hz]; rfl) (by decide) (c_law_19 hc9 hs9 H)
  | 20, hz, H => exact ar_swIn 1205 dL_law_40 (by omega) (by omega) (by rw [hz]; rfl) (by decide) (c_law_20 hc9 hs9 H)
  | 21, hz, H => exact ar_swIn 1218 dL_law_40 (by omega) (by omega) (by rw [hz]; rfl) (by decide) (c_law_21 hc9 hs9 H)
  | 22, hz, H => exact ar_swIn 1259 dL_law_40 (by omega) (by omega) (by rw [hz]; rfl) (by decide) (c_law_22 hc9 hs9 H)
  | 23, hz, H => exact ar_swIn 1302 dL_law_40 (by omega) (by omega) (by rw [hz]; rfl) (by decide) (c_law_23 hc9 hs9 H)
  | 24, hz, H => exact ar_swIn 1358 dL_law_40 (by omega) (by omega) (by rw [hz]; rfl) (by decide) (c_law_24 hc9 hs9 H)
  | 25, hz, H => exact ar_swIn 1371 dL_law_40 (by omega) (by omega) (by rw [hz]; rfl) (by decide) (c_law_25 hc9 hs9 H)
  | 26, hz, H => exact ar_swIn 1384 dL_law_40 (by omega) (by omega) (by rw [hz]; rfl) (by decide) (c_law_26 hc9 hs9 H)
  | 27, hz, H => exact ar_swIn 1397 dL_law_40 (by omega) (by omega) (by rw [hz]; rfl) (by decide) (c_law_27 hc9 hs9 H)
  | 28, hz, H => exact ar_swIn 1453 dL_law_40 (by omega) (by omega) (by rw [hz]; rfl) (by decide) (c_law_28 hc9 hs9 H)
  | 29, hz, H => exact ar_swIn 1497 dL_law_40 (by omega) (by omega) (by rw [hz]; rfl) (by decide) (c_law_29 hc9 hs9 H)
  | 30, hz, H => exact ar_swIn 1510 dL_law_40 (by omega) (by omega) (by rw [hz]; rfl) (by decide) (c_law_30 hc9 hs9 H)
  | 31, hz, H => exact ar_swIn 1566 dL_law_40 (by omega) (by omega) (by rw [hz]; rfl) (by decide) (c_law_31 hc9 hs9 H)
  | 32, hz, H => exact ar_swIn 1610 dL_law_40 (by omega) (by omega) (by rw [hz]; rfl) (by decide) (c_law_32 hc9 hs9 H)
  | 33, hz, H => exact ar_swIn 1666 dL_law_40 (by omega) (by omega) (by rw [hz]; rfl) (by decide) (c_law_33 hc9 hs9 H)
  | 34, hz, H => exact ar_swIn 1722 dL_law_40 (by omega) (by omega) (by rw [hz]; rfl) (by decide) (c_law_34 hc9 hs9 H)
  | 35, hz, H => exact ar_swIn 1778 dL_law_40 (by omega) (by omega) (by rw [hz]; rfl) (by decide) (c_law_35 hc9 hs9 H)
  | 36, hz, H => exact ar_swIn 1834 dL_law_40 (by omega) (by omega) (by rw [hz]; rfl) (by decide) (c_law_36 hc9 hs9 H)
  | 37, hz, H => exact ar_swIn 1902 dL_law_40 (by omega) (by omega) (by rw [hz]; rfl) (by decide) (c_law_37 hc9 hs9 H)
  | 38, hz, H => exact ar_swIn 1970 dL_law_40 (by omega) (by omega) (by rw [hz]; rfl) (by decide) (c_law_38 hc9 hs9 H)
  | 39, hz, H => exact ar_swIn 1983 dL_law_40 (by omega) (by omega) (by rw [hz]; rfl) (by decide) (c_law_39 hc9 hs9 H)
  | 40, hz, H => exact ar_swIn 2039 dL_law_40 (by omega) (by omega) (by rw [hz]; rfl) (by decide) (c_law_40 hc9 hs9 H)
  | 41, hz, H => exact ar_swIn 2052 dL_law_40 (by omega) (by omega) (by rw [hz]; rfl) (by decide) (c_law_41 hc9 hs9 H)
  | 42, hz, H => exact ar_swIn 2065 dL_law_40 (by omega) (by omega) (by rw [hz]; rfl) (by decide) (c_law_42 hc9 hs9 H)
  | z + 43, hz, H =>
    replace H := wp_s H
    refine ar_swOut 2109 dL_law_40 (by omega) (by decide) ?_
    refine rn_m_4 (v := x4 + iI (6)) dL_law_2109 rfl trivial rfl ?_
    refine ar_goto 23 dL_law_2112 (by decide) ?_
    exact am_V.up (by omega) (by omega) hc9 hs9 H
