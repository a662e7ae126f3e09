noncomputable def f_X12_hardness (x1 : Int32) (h : am_H) : Option Int32 :=
  (f_X12_centre x1 h).bind (fun a1 => (f_X12_arcOf a1 h).bind (fun a2 => if a2 = (iI (-1)) then (some ((iI (0)))) else ((f_X12_ofArc a2 (iI (3)) h).bind (fun a3 => some (a3)))))
theorem c_X12_hardness {x1 : Int32} {h : am_H} {a : Int32} (e : f_X12_hardness x1 h = some a) : am_Mi yX12_hardness cX12_hardness 3 (some .int) 5 107 [am_r (.inl 0) 0, am_i x1] h a h := by
  refine am_M.ofi (A := [some (am_r (.inl 0) 0), some (am_i x1), none]) (by decide +kernel) rfl (ble rfl) (fun Q hQ => ?_)
  have H : wp (f_X12_hardness x1 h) (fun a => Q (some (am_i a)) h) := ⟨a, e, hQ⟩
  unfold f_X12_hardness at H
  refine rl_a0 dX12_hardness_0 ?_
  refine rl_a0 dX12_hardness_1 ?_
  refine rl_i1 dX12_hardness_2 ?_
  obtain ⟨a1, e1, H⟩ := wp_b H
  refine rc_V1i dX12_hardness_3 ml_X12_283 mc_X12_centre (c_X12_centre e1) rfl rfl rfl (ok_M rfl) rfl rfl rfl ?_
  obtain ⟨a2, e2, H⟩ := wp_b H
  refine rc_V1i dX12_hardness_6 ml_X12_268 mc_X12_arcOf (c_X12_arcOf e2) rfl rfl rfl (ok_M rfl) rfl rfl rfl ?_
  refine rs_i2 dX12_hardness_9 rfl trivial ?_
  refine rl_i2 dX12_hardness_10 ?_
  refine ar_iconst (iI (-1)) dX12_hardness_11 rfl ?_
  refine ar_ic_ne 19 dX12_hardness_12 (by decide) (fun c1 => ?_) (fun c1 => ?_)
  · replace H := wp_f c1 H
    refine rl_a0 dX12_hardness_19 ?_
    refine rl_i2 dX12_hardness_20 ?_
    refine ar_iconst (iI (3)) dX12_hardness_21 rfl ?_
    obtain ⟨a3, e3, H⟩ := wp_b H
    refine rc_V2i dX12_hardness_22 ml_X12_256 mc_X12_ofArc (c_X12_ofArc e3) rfl rfl rfl (ok_M rfl) rfl rfl rfl ?_
    replace H := wp_s H
    exact ar_iret dX12_hardness_25 rfl rfl H
  · replace H := wp_t c1 H
    refine ar_iconst (iI (0)) dX12_hardness_15 rfl ?_
    refine ar_goto 25 dX12_hardness_16 (by decide) ?_
    replace H := wp_s H
    exact ar_iret dX12_hardness_25 rfl rfl H
noncomputable def f_X12_strokesOf (x1 : Int32) (h : am_H) : Option Int32 :=
  (f_X12_ofLetter x1 (iI (0)) h).bind (fun a1 => if (iI (4)) = 0 then none else (some (((iI (1)) + (a1 - a1 / (iI (4)) * (iI (4)))))))
theorem c_X12_strokesOf {x1 : Int32} {h : am_H} {a : Int32} (e : f_X12_strokesOf x1 h = some a) : am_Mi yX12_strokesOf cX12_strokesOf 2 (some .int) 1 22 [am_r (.inl 0) 0, am_i x1] h a h := by
  refine am_M.ofi (A := [some (am_r (.inl 0) 0), some (am_i x1)]) (by decide +kernel) rfl (ble rfl) (fun Q hQ => ?_)
  have H : wp (f_X12_strokesOf x1 h) (fun a => Q (some (am_i a)) h) := ⟨a, e, hQ⟩
  unfold f_X12_strokesOf at H
  refine ar_iconst (iI (1)) dX12_strokesOf_0 rfl ?_
  refine rl_a0 dX12_strokesOf_1 ?_
  refine rl_i1 dX12_strokesOf_2 ?_
  refine ar_iconst (iI (0)) dX12_strokesOf_3 rfl ?_
  obtain ⟨a1, e1, H⟩ := wp_b H
  refine rc_V2i dX12_strokesOf_4 ml_X12_280 mc_X12_ofLetter (c_X12_ofLetter e1) rfl rfl rfl (ok_M rfl) rfl rfl rfl ?_
  refine ar_iconst (iI (4)) dX12_strokesOf_7 rfl ?_
  obtain ⟨b1, H⟩ := wp_d H
  refine ar_irem dX12_strokesOf_8 b1 ?_
  refine ar_iadd dX12_strokesOf_9 ?_
  replace H := wp_s H
  exact ar_iret dX12_strokesOf_10 rfl rfl H
noncomputable def f_X12_dangerOf (x1 : Int32) (h : am_H) : Option Int32 :=
  (f_X12_hardness x1 h).bind (fun a1 => if ib (iI (3)) 408 then ((f_X12_greater (iI (0)) ((iI (2)) * (a1 - (h.1 (.inl 0) 2 ((iI (3))).toNatClampNeg)))).bind (fun a2 => (f_X12_lesser (iI (100)) a2).bind (fun a3 => some (a3)))) else none)
theorem c_X12_dangerOf {x1 : Int32} {h : am_H} {a : Int32} (e : f_X12_dangerOf x1 h = some a) : am_Mi yX12_dangerOf cX12_dangerOf 2 (some .int) 6 129 [am_r (.inl 0) 0, am_i x1] h a h := by
  refine am_M.ofi (A := [some (am_r (.inl 0) 0), some (am_i x1)]) (by decide +kernel) rfl (ble rfl) (fun Q hQ => ?_)
  have H : wp (f_X12_dangerOf x1 h) (fun a => Q (some (am_i a)) h) := ⟨a, e, hQ⟩
  unfold f_X12_dangerOf at H
  refine ar_bipush (iI (100)) dX12_dangerOf_0 rfl ?_
  refine ar_iconst (iI (0)) dX12_dangerOf_2 rfl ?_
  refine ar_iconst (iI (2)) dX12_dangerOf_3 rfl ?_
  refine rl_a0 dX12_dangerOf_4 ?_
  refine rl_i1 dX12_dangerOf_5 ?_
  obtain ⟨a1, e1, H⟩ := wp_b H
  refine rc_V1i dX12_dangerOf_6 ml_X12_326 mc_X12_hardness (c_X12_hardness e1) rfl rfl rfl (ok_M rfl) rfl rfl rfl ?_
  refine rl_a0 dX12_dangerOf_9 ?_
  refine rg_R (.inl 0) 2 dX12_dangerOf_10 fg_X12_20 rfl rfl rfl (ok_M rfl) ?_
  refine ar_iconst (iI (3)) dX12_dangerOf_13 rfl ?_
  obtain ⟨b1, H⟩ := wp_g H
  refine ar_iald dX12_dangerOf_14 rfl (ok_M rfl) (ib_in b1) ?_
  refine ar_isub dX12_dangerOf_15 ?_
  refine ar_imul dX12_dangerOf_16 ?_
  obtain ⟨a2, e2, H⟩ := wp_b H
  refine rc_S2i dX12_dangerOf_17 ml_X12_329 mc_X12_greater (c_X12_greater e2) rfl rfl rfl ?_
  obtain ⟨a3, e3, H⟩ := wp_b H
  refine rc_S2i dX12_dangerOf_20 ml_X12_271 mc_X12_lesser (c_X12_lesser e3) rfl rfl rfl ?_
  replace H := wp_s H
  exact ar_iret dX12_dangerOf_23 rfl rfl H
noncomputable def f_X12_scratches (x1 : Int32) (h : am_H) : Option am_H :=
  (f_X12_draws (iI (20)) h).bind (fun a1 => if ib (iI (8)) 408 then (if ib (((iI (148)) + ((iI (2)) * (a1.2.1 (.inl 0) 2 ((iI (8))).toNatClampNeg))) + (iI (0))) 408 then (am_lt (am_u a1.2 (.inl 0) 2 (((((iI (148)) + ((iI (2)) * (a1.2.1 (.inl 0) 2 ((iI (8))).toNatClampNeg))) + (iI (0)))).toNatClampNeg) x1) (fun h1 => if ib (((iI (148)) + ((iI (2)) * (a1.2.1 (.inl 0) 2 ((iI (8))).toNatClampNeg))) + (iI (1))) 408 then (am_lt (am_u h1 (.inl 0) 2 (((((iI (148)) + ((iI (2)) * (a1.2.1 (.inl 0) 2 ((iI (8))).toNatClampNeg))) + (iI (1)))).toNatClampNeg) ((iI (100)) * ((iI (1)) + a1.1))) (fun h2 => if ib (iI (8)) 408 then (if ib (iI (8)) 408 then (am_lt (am_u h2 (.inl 0) 2 (((iI (8))).toNatClampNeg) ((h2.1 (.inl 0) 2 ((iI (8))).toNatClampNeg) + (iI (1)))) (fun h3 => if ib (iI (6)) 408 then (if ib (iI (6)) 408 then (am_lt (am_u h3 (.inl 0) 2 (((iI (6))).toNatClampNeg) ((h3.1 (.inl 0) 2 ((iI (6))).toNatClampNeg) + (iI (1)))) (fun h4 => some (h4))) else none) else none)) else none) else none)) else none)) else none) else none)
theorem c_X12_scratches {x1 : Int32} {h : am_H} {a : am_H} (e : f_X12_scratches x1 h = some a) : am_Mv yX12_scratches cX12_scratches 4 (none) 1 21 [am_r (.inl 0) 0, am_i x1] h a := by
  refine am_M.ofv (A := [some (am_r (.inl 0) 0), some (am_i x1), none, none]) (by decide +kernel) rfl (ble rfl) (fun Q hQ => ?_)
  have H : wp (f_X12_scratches x1 h) (fun a => Q none a) := ⟨a, e, hQ⟩
  unfold f_X12_scratches at H
  refine ar_bipush (iI (100)) dX12_scratches_0 rfl ?_
  refine ar_iconst (iI (1)) dX12_scratches_2 rfl ?_
  refine rl_a0 dX12_scratches_3 ?_
  refine ar_bipush (iI (20)) dX12_scratches_4 rfl ?_
  obtain ⟨a1, e1, H⟩ := wp_b H
  refine rc_V1i dX12_scratches_6 ml_X12_332 mc_X12_draws (c_X12_draws e1) rfl rfl rfl (ok_M rfl) rfl rfl rfl ?_
  refine ar_iadd dX12_scratches_9 ?_
  refine ar_imul dX12_scratches_10 ?_
  refine rs_i2 dX12_scratches_11 rfl trivial ?_
  refine rl_a0 dX12_scratches_12 ?_
  refine rg_R (.inl 0) 2 dX12_scratches_13 fg_X12_20 rfl rfl rfl (ok_M rfl) ?_
  refine ar_bipush (iI (8)) dX12_scratches_16 rfl ?_
  obtain ⟨b1, H⟩ := wp_g H
  refine ar_iald dX12_scratches_18 rfl (ok_M rfl) (ib_in b1) ?_
  refine rs_i3 dX12_scratches_19 rfl trivial ?_
  refine rl_a0 dX12_scratches_20 ?_
  refine rg_R (.inl 0) 2 dX12_scratches_21 fg_X12_20 rfl rfl rfl (ok_M rfl) ?_
  refine ar_sipush (iI (148)) dX12_scratches_24 rfl ?_
  refine ar_iconst (iI (2)) dX12_scratches_27 rfl ?_
  refine rl_i3 dX12_scratches_28 ?_
  refine ar_imul dX12_scratches_29 ?_
  refine ar_iadd dX12_scratches_30 ?_
  refine ar_iconst (iI (0)) dX12_scratches_31 rfl ?_
  refine ar_iadd dX12_scratches_32 ?_
  refine rl_i1 dX12_scratches_33 ?_
  obtain ⟨b2, H⟩ := wp_g H
  refine ar_iast dX12_scratches_34 rfl (ok_M rfl) (ib_in b2) ?_
  replace H := wp_l H
  generalize am_u a1.2 (.inl 0) 2 (((((iI (148)) + ((iI (2)) * (a1.2.1 (.inl 0) 2 ((iI (8))).toNatClampNeg))) + (iI (0)))).toNatClampNeg) x1 = h1 at H ⊢
  refine rl_a0 dX12_scratches_35 ?_
  refine rg_R (.inl 0) 2 dX12_scratches_36 fg_X12_20 rfl rfl rfl (ok_M rfl) ?_
  refine ar_sipush (iI (148)) dX12_scratches_39 rfl ?_
  refine ar_iconst (iI (2)) dX12_scratches_42 rfl ?_
  refine rl_i3 dX12_scratches_43 ?_
  refine ar_imul dX12_scratches_44 ?_
  refine ar_iadd dX12_scratches_45 ?_
  refine ar_iconst (iI (1)) dX12_scratches_46 rfl ?_
  refine ar_iadd dX12_scratches_47 ?_
  refine rl_i2 dX12_scratches_48 ?_
  obtain ⟨b3, H⟩ := wp_g H
  refine ar_iast dX12_scratches_49 rfl (ok_M rfl) (ib_in b3) ?_
  replace H := wp_l H
  generalize am_u h1 (.inl 0) 2 (((((iI (148)) + ((iI (2)) * (a1.2.1 (.inl 0) 2 ((iI (8))).toNatClampNeg))) + (iI (1)))).toNatClampNeg) ((iI (100)) * ((iI (1)) + a1.1)) = h2 at H ⊢
  refine rl_a0 dX12_scratches_50 ?_
  refine rg_R (.inl 0) 2 dX12_scratches_51 fg_X12_20 rfl rfl rfl (ok_M rfl) ?_
  refine ar_bipush (iI (8)) dX12_scratches_54 rfl ?_
  refine ar_dup2 dX12_scratches_56 trivial trivial ?_
  obtain ⟨b4, H⟩ := wp_g H
  refine ar_iald dX12_scratches_57 rfl (ok_M rfl) (ib_in b4) ?_
  refine ar_iconst (iI (1)) dX12_scratches_58 rfl ?_
  refine ar_iadd dX12_scratches_59 ?_
  obtain ⟨b5, H⟩ := wp_g H
  refine ar_iast dX12_scratches_60 rfl (ok_M rfl) (ib_in b5) ?_
  replace H := wp_l H
  generalize am_u h2 (.inl 0) 2 (((iI (8))).toNatClampNeg) ((h2.1 (.inl 0) 2 ((iI (8))).toNatClampNeg) + (iI (1))) = h3 at H ⊢
  refine rl_a0 dX12_scratches_61 ?_
  refine rg_R (.inl 0) 2 dX12_scratches_62 fg_X12_20 rfl rfl rfl (ok_M rfl) ?_
  refine ar_bipush (iI (6)) dX12_scratches_65 rfl ?_
  refine ar_dup2 dX12_scratches_67 trivial trivial ?_
  obtain ⟨b6, H⟩ := wp_g H
  refine ar_iald dX12_scratches_68 rfl (ok_M rfl) (ib_in b6) ?_
  refine ar_iconst (iI (1)) dX12_scratches_69 rfl ?_
  refine ar_iadd dX12_scratches_70 ?_
  obtain ⟨b7, H⟩ := wp_g H
  refine ar_iast dX12_scratches_71 rfl (ok_M rfl) (ib_in b7) ?_
  replace H := wp_l H
  generalize am_u h3 (.inl 0) 2 (((iI (6))).toNatClampNeg) ((h3.1 (.inl 0) 2 ((iI (6))).toNatClampNeg) + (iI (1))) = h4 at H ⊢
  replace H := wp_s H
  exact ar_vret dX12_scratches_72 rfl H
noncomputable def f_X12_strokes_34   (h : am_H) : Option am_H :=
  if ib (iI (7)) 408 then (if ib (iI (7)) 408 then (am_lt (am_u h (.inl 0) 2 (((iI (7))).toNatClampNeg) ((h.1 (.inl 0) 2 ((iI (7))).toNatClampNeg) + (iI (1)))) (fun h1 => if ib (iI (3)) 408 then ((f_X12_greater (iI (0)) ((h1.1 (.inl 0) 2 ((iI (3))).toNatClampNeg) - (iI (1)))).bind (fun a1 => if ib (iI (3)) 408 then (am_lt (am_u h1 (.inl 0) 2 (((iI (3))).toNatClampNeg) a1) (fun h2 => some (h2))) else none)) else none)) else none) else none
noncomputable def f_X12_strokes (x1 : Int32) (h : am_H) : Option am_H :=
  (f_X12_hardness x1 h).bind (fun a1 => if ib (iI (3)) 408 then (if (a1 - (h.1 (.inl 0) 2 ((iI (3))).toNatClampNeg)) ≤ 0 then (f_X12_strokes_34 h) else ((f_X12_draws (iI (100)) h).bind (fun a2 => if ((iI (2)) * (a1 - (h.1 (.inl 0) 2 ((iI (3))).toNatClampNeg))) ≤ a2.1 then (f_X12_strokes_34 a2.2) else ((f_X12_scratches x1 a2.2).bind (fun a3 => f_X12_strokes_34 a3))))) else none)
theorem c_X12_strokes_34   {h : am_H} {Q : Option am_v → am_H → Prop} (H : wp (f_X12_strokes_34 h) (fun a => Q none a)) : am_V RX12 cX12_strokes 3 (none) 6 129 0 0 none (am_Tm cX12_strokes (none) Q) 0 0 34 [some (am_r (.inl 0) 0), none, none] [] h := by
  unfold f_X12_strokes_34 at H
  refine rl_a0 dX12_strokes_34 ?_
  refine rg_R (.inl 0) 2 dX12_strokes_35 fg_X12_20 rfl rfl rfl (ok_M rfl) ?_
  refine ar_bipush (iI (7)) dX12_strokes_38 rfl ?_
  refine ar_dup2 dX12_strokes_40 trivial trivial ?_
  obtain ⟨b1, H⟩ := wp_g H
  refine ar_iald dX12_strokes_41 rfl (ok_M rfl) (ib_in b1) ?_
  refine ar_iconst (iI (1)) dX12_strokes_42 rfl ?_
  refine ar_iadd dX12_strokes_43 ?_
  obtain ⟨b2, H⟩ := wp_g H
  refine ar_iast dX12_strokes_44 rfl (ok_M rfl) (ib_in b2) ?_
  replace H := wp_l H
  generalize am_u h (.inl 0) 2 (((iI (7))).toNatClampNeg) ((h.1 (.inl 0) 2 ((iI (7))).toNatClampNeg) + (iI (1))) = h1 at H ⊢
  refine rl_a0 dX12_strokes_45 ?_
  refine rg_R (.inl 0) 2 dX12_strokes_46 fg_X12_20 rfl rfl rfl (ok_M rfl) ?_
  refine ar_iconst (iI (3)) dX12_strokes_49 rfl ?_
  refine ar_iconst (iI (0)) dX12_strokes_50 rfl ?_
  refine rl_a0 dX12_strokes_51 ?_
  refine rg_R (.inl 0) 2 dX12_strokes_52 fg_X12_20 rfl rfl rfl (ok_M rfl) ?_
  refine ar_iconst (iI (3)) dX12_strokes_55 rfl ?_
  obtain ⟨b3, H⟩ := wp_g H
  refine ar_iald dX12_strokes_56 rfl (ok_M rfl) (ib_in b3) ?_
  refine ar_iconst (iI (1)) dX12_strokes_57 rfl ?_
  refine ar_isub dX12_strokes_58 ?_
  obtain ⟨a1, e1, H⟩ := wp_b H
  refine rc_S2i dX12_strokes_59 ml_X12_329 mc_X12_greater (c_X12_greater e1) rfl rfl rfl ?_
  obtain ⟨b4, H⟩ := wp_g H
  refine ar_iast dX12_strokes_62 rfl (ok_M rfl) (ib_in b4) ?_
  replace H := wp_l H
  generalize am_u h1 (.inl 0) 2 (((iI (3))).toNatClampNeg) a1 = h2 at H ⊢
  replace H := wp_s H
  exact ar_vret dX12_strokes_63 rfl H
theorem c_X12_strokes {x1 : Int32} {h : am_H} {a : am_H} (e : f_X12_strokes x1 h = some a) : am_Mv yX12_strokes cX12_strokes 3 (none) 6 129 [am_r (.inl 0) 0, am_i x1] h a := by
  refine am_M.ofv (A := [some (am_r (.inl 0) 0), some (am_i x1), none]) (by decide +kernel) rfl (ble rfl) (fun Q hQ => ?_)
  have H : wp (f_X12_strokes x1 h) (fun a => Q none a) := ⟨a, e, hQ⟩
  unfold f_X12_strokes at H
  refine rl_a0 dX12_strokes_0 ?_
  refine rl_i1 dX12_strokes_1 ?_
  obtain ⟨a1, e1, H⟩ := wp_b H
  refine rc_V1i dX12_strokes_2 ml_X12_326 mc_X12_hardness (c_X12_hardness e1) rfl rfl rfl (ok_M rfl) rfl rfl rfl ?_
  refine rl_a0 dX12_strokes_5 ?_
  refine rg_R (.inl 0) 2 dX12_strokes_6 fg_X12_20 rfl rfl rfl (ok_M rfl) ?_
  refine ar_iconst (iI (3)) dX12_strokes_9 rfl ?_
  obtain ⟨b1, H⟩ := wp_g H
  refine ar_iald dX12_strokes_10 rfl (ok_M rfl) (ib_in b1) ?_
  refine ar_isub dX12_strokes_11 ?_
  refine rs_i2 dX12_strokes_12 rfl trivial ?_
  refine rl_i2 dX12_strokes_13 ?_
  refine ar_if_le 34 dX12_strokes_14 (by decide) (fun c1 => ?_) (fun c1 => ?_)
  · replace H := wp_t c1 H
    exact am_V.wk (am_s (am_n (am_n am_0))) (c_X12_strokes_34  H)
  · replace H := wp_f c1 H
    refine rl_a0 dX12_strokes_17 ?_
    refine ar_bipush (iI (100)) dX12_strokes_18 rfl ?_
    obtain ⟨a2, e2, H⟩ := wp_b H
    refine rc_V1i dX12_strokes_20 ml_X12_332 mc_X12_draws (c_X12_draws e2) rfl rfl rfl (ok_M rfl) rfl rfl rfl ?_
    refine ar_iconst (iI (2)) dX12_strokes_23 rfl ?_
    refine rl_i2 dX12_strokes_24 ?_
    refine ar_imul dX12_strokes_25 ?_
    refine ar_ic_ge 34 dX12_strokes_26 (by decide) (fun c2 => ?_) (fun c2 => ?_)
    · replace H := wp_t c2 H
      exact am_V.wk (am_s (am_n (am_n am_0))) (c_X12_strokes_34  H)
    · replace H := wp_f c2 H
      refine rl_a0 dX12_strokes_29 ?_
      refine rl_i1 dX12_strokes_30 ?_
      obtain ⟨a3, e3, H⟩ := wp_b H
      refine rc_V1v dX12_strokes_31 ml_X12_335 mc_X12_scratches (c_X12_scratches e3) rfl rfl rfl (ok_M rfl) rfl rfl rfl ?_
      exact am_V.wk (am_s (am_n (am_n am_0))) (c_X12_strokes_34  H)
noncomputable def s_X12_engraves  : am_S am_H → Option (am_S am_H ⊕ (Int32 × am_H)) := fun s => match s with
  | (10, [x1, x2, x3], [], [], h) => (f_X12_strokesOf x1 h).bind (fun a1 => if a1 ≤ x3 then ((f_X12_setsLetter x1 (iI (1)) (iI (1)) h).bind (fun a2 => if ib (iI (8)) 408 then (some (.inr ((((a2.1 (.inl 0) 2 ((iI (8))).toNatClampNeg) - x2), a2)))) else none)) else ((f_X12_strokes x1 h).bind (fun a2 => some (.inl (10, [x1, x2, (x3 + 1)], [], [], a2)))))
  | _ => none
noncomputable def f_X12_engraves_10  (x1 : Int32) (x2 : Int32) (x3 : Int32) (h : am_H) : Option (Int32 × am_H) := lp (s_X12_engraves) (10, [x1, x2, x3], [], [], h)
theorem e_X12_engraves_10  (x1 : Int32) (x2 : Int32) (x3 : Int32) (h : am_H) : f_X12_engraves_10 x1 x2 x3 h = ((f_X12_strokesOf x1 h).bind (fun a1 => if a1 ≤ x3 then ((f_X12_setsLetter x1 (iI (1)) (iI (1)) h).bind (fun a2 => if ib (iI (8)) 408 then (some ((((a2.1 (.inl 0) 2 ((iI (8))).toNatClampNeg) - x2), a2))) else none)) else ((f_X12_strokes x1 h).bind (fun a2 => f_X12_engraves_10 x1 x2 (x3 + 1) a2)))) := by
  show lp _ _ = _
  rw [lp_eq, s_X12_engraves]
  simp only [lpk_i, lpk_b, lpk_l, lpk_n, lpk_j, lpk_r] <;> rfl
noncomputable def f_X12_engraves (x1 : Int32) (h : am_H) : Option (Int32 × am_H) :=
  if ib (iI (8)) 408 then (f_X12_engraves_10 x1 (h.1 (.inl 0) 2 ((iI (8))).toNatClampNeg) (iI (0)) h) else none
theorem c_X12_engraves_L  {Q : Option am_v → am_H → Prop} : ∀ s, wp (lp (s_X12_engraves) s) (fun a => Q (some (am_i a.1)) a.2) → ((∀ x1 x2 x3 h, s = (10, [x1, x2, x3], [], [], h) → am_V RX12 cX12_engraves 4 (some .int) 7 151 0 0 none (am_Tm cX12_engraves (some .int) Q) 0 0 10 [some (am_r (.inl 0) 0), some (am_i x1), some (am_i x2), some (am_i x3)] [] h)) := by
  refine lp_ind _ _ (fun s H => fun x1 x2 x3 h e => ?_)
  · subst e
    rw [s_X12_engraves] at H
    refine rl_i3 dX12_engraves_10 ?_
    refine rl_a0 dX12_engraves_11 ?_
    refine rl_i1 dX12_engraves_12 ?_
    obtain ⟨a1, e1, H⟩ := wp_b H
    refine rc_V1i dX12_engraves_13 ml_X12_338 mc_X12_strokesOf (c_X12_strokesOf e1) rfl rfl rfl (ok_M rfl) rfl rfl rfl ?_
    refine ar_ic_ge 30 dX12_engraves_16 (by decide) (fun c1 => ?_) (fun c1 => ?_)
    · replace H := wp_t c1 H
      refine rl_a0 dX12_engraves_30 ?_
      refine rl_i1 dX12_engraves_31 ?_
      refine ar_iconst (iI (1)) dX12_engraves_32 rfl ?_
      refine ar_iconst (iI (1)) dX12_engraves_33 rfl ?_
      obtain ⟨a2, e2, H⟩ := wp_b H
      refine rc_V3v dX12_engraves_34 ml_X12_189 mc_X12_setsLetter (c_X12_setsLetter e2) rfl rfl rfl (ok_M rfl) rfl rfl rfl ?_
      refine rl_a0 dX12_engraves_37 ?_
      refine rg_R (.inl 0) 2 dX12_engraves_38 fg_X12_20 rfl rfl rfl (ok_M rfl) ?_
      refine ar_bipush (iI (8)) dX12_engraves_41 rfl ?_
      obtain ⟨b1, H⟩ := wp_g H
      refine ar_iald dX12_engraves_43 rfl (ok_M rfl) (ib_in b1) ?_
      refine rl_i2 dX12_engraves_44 ?_
      refine ar_isub dX12_engraves_45 ?_
      replace H := lp_re H
      exact ar_iret dX12_engraves_46 rfl rfl H
    · replace H := wp_f c1 H
      refine rl_a0 dX12_engraves_19 ?_
      refine rl_i1 dX12_engraves_20 ?_
      obtain ⟨a2, e2, H⟩ := wp_b H
      refine rc_V1v dX12_engraves_21 ml_X12_341 mc_X12_strokes (c_X12_strokes e2) rfl rfl rfl (ok_M rfl) rfl rfl rfl ?_
      refine rn_1_3 dX12_engraves_24 rfl trivial ?_
      refine ar_goto 10 dX12_engraves_27 (by decide) ?_
      exact am_V.wk (am_s (am_s (am_s (am_s am_0)))) ((lp_in H) _ _ _ _ rfl)
theorem c_X12_engraves {x1 : Int32} {h : am_H} {a : Int32 × am_H} (e : f_X12_engraves x1 h = some a) : am_Mi yX12_engraves cX12_engraves 4 (some .int) 7 151 [am_r (.inl 0) 0, am_i x1] h a.1 a.2 := by
  refine am_M.ofi (A := [some (am_r (.inl 0) 0), some (am_i x1), none, none]) (by decide +kernel) rfl (ble rfl) (fun Q hQ => ?_)
  have H : wp (f_X12_engraves x1 h) (fun a => Q (some (am_i a.1)) a.2) := ⟨a, e, hQ⟩
  unfold f_X12_engraves at H
  refine rl_a0 dX12_engraves_0 ?_
  refine rg_R (.inl 0) 2 dX12_engraves_1 fg_X12_20 rfl rfl rfl (ok_M rfl) ?_
  refine ar_bipush (iI (8)) dX12_engraves_4 rfl ?_
  obtain ⟨b1, H⟩ := wp_g H
  refine ar_iald dX12_engraves_6 rfl (ok_M rfl) (ib_in b1) ?_
  refine rs_i2 dX12_engraves_7 rfl trivial ?_
  refine ar_iconst (iI (0)) dX12_engraves_8 rfl ?_
  refine rs_i3 dX12_engraves_9 rfl trivial ?_
  exact am_V.wk (am_s (am_s (am_s (am_s am_0)))) ((c_X12_engraves_L  _ H) _ _ _ _ rfl)
noncomputable def s_X12_engravesAll  : am_S am_H → Option (am_S am_H ⊕ (Int32 × am_H)) := fun s => match s with
  | (7, [x1, x2, x3, x4], [], [], h) => if ib (iI (1)) 408 then (if (h.1 (.inl 0) 2 ((iI (1))).toNatClampNeg) ≤ x4 then (some (.inr ((x2, h)))) else ((f_X12_ofLetter x4 (iI (1)) h).bind (fun a1 => if a1 = (iI (1)) then (some (.inl (7, [x1, x2, x3, (x4 + 1)], [], [], h))) else (if ib (iI (8)) 408 then (if (h.1 (.inl 0) 2 ((iI (8))).toNatClampNeg) ≤ x1 then ((f_X12_engraves x4 h).bind (fun a2 => some (.inl (7, [x1, (x2 + 1), (x3 + a2.1), (x4 + 1)], [], [], a2.2)))) else (some (.inl (7, [x1, x2, x3, (x4 + 1)], [], [], h)))) else none)))) else none
  | _ => none
noncomputable def f_X12_engravesAll_7  (x1 : Int32) (x2 : Int32) (x3 : Int32) (x4 : Int32) (h : am_H) : Option (Int32 × am_H) := lp (s_X12_engravesAll) (7, [x1, x2, x3, x4], [], [], h)
theorem e_X12_engravesAll_7  (x1 : Int32) (x2 : Int32) (x3 : Int32) (x4 : Int32) (h : am_H) : f_X12_engravesAll_7 x1 x2 x3 x4 h = (if ib (iI (1)) 408 then (if (h.1 (.inl 0) 2 ((iI (1))).toNatClampNeg) ≤ x4 then (some ((x2, h))) else ((f_X12_ofLetter x4 (iI (1)) h).bind (fun a1 => if a1 = (iI (1)) then (f_X12_engravesAll_7 x1 x2 x3 (x4 + 1) h) else (if ib (iI (8)) 408 then (if (h.1 (.inl 0) 2 ((iI (8))).toNatClampNeg) ≤ x1 then ((f_X12_engraves x4 h).bind (fun a2 => f_X12_engravesAll_7 x1 (x2 + 1) (x3 + a2.1) (x4 + 1) a2.2)) else (f_X12_engravesAll_7 x1 x2 x3 (x4 + 1) h)) else none)))) else none) := by
  show lp _ _ = _
  rw [lp_eq, s_X12_engravesAll]
  simp only [lpk_i, lpk_b, lpk_l, lpk_n, lpk_j, lpk_r] <;> rfl
noncomputable def f_X12_engravesAll (x1 : Int32) (h : am_H) : Option (Int32 × am_H) :=
  f_X12_engravesAll_7 x1 (iI (0)) (iI (0)) (iI (0)) h
theorem c_X12_engravesAll_L  {Q : Option am_v → am_H → Prop} : ∀ s, wp (lp (s_X12_engravesAll) s) (fun a => Q (some (am_i a.1)) a.2) → ((∀ x1 x2 x3 x4 h, s = (7, [x1, x2, x3, x4], [], [], h) → am_V RX12 cX12_engravesAll 5 (some .int) 8 174 0 0 none (am_Tm cX12_engravesAll (some .int) Q) 0 0 7 [some (am_r (.inl 0) 0), some (am_i x1), some (am_i x2), some (am_i x3), some (am_i x4)] [] h)) := by
  refine lp_ind _ _ (fun s H => fun x1 x2 x3 x4 h e => ?_)
  · subst e
    rw [s_X12_engravesAll] at H
    refine rl_i4 dX12_engravesAll_7 ?_
    refine rl_a0 dX12_engravesAll_9 ?_
    refine rg_R (.inl 0) 2 dX12_engravesAll_10 fg_X12_20 rfl rfl rfl (ok_M rfl) ?_
    refine ar_iconst (iI (1)) dX12_engravesAll_13 rfl ?_
    obtain ⟨b1, H⟩ := wp_g H
    refine ar_iald dX12_engravesAll_14 rfl (ok_M rfl) (ib_in b1) ?_
    refine ar_ic_ge 61 dX12_engravesAll_15 (by decide) (fun c1 => ?_) (fun c1 => ?_)
    · replace H := wp_t c1 H
      refine rl_i2 dX12_engravesAll_61 ?_
      replace H := lp_re H
      exact ar_iret dX12_engravesAll_62 rfl rfl H
    · replace H := wp_f c1 H
      refine rl_a0 dX12_engravesAll_18 ?_
      refine rl_i4 dX12_engravesAll_19 ?_
      refine ar_iconst (iI (1)) dX12_engravesAll_21 rfl ?_
      obtain ⟨a1, e1, H⟩ := wp_b H
      refine rc_V2i dX12_engravesAll_22 ml_X12_280 mc_X12_ofLetter (c_X12_ofLetter e1) rfl rfl rfl (ok_M rfl) rfl rfl rfl ?_
      refine ar_iconst (iI (1)) dX12_engravesAll_25 rfl ?_
      refine ar_ic_eq 55 dX12_engravesAll_26 (by decide) (fun c2 => ?_) (fun c2 => ?_)
      · replace H := wp_t c2 H
        refine rn_1_4 dX12_engravesAll_55 rfl trivial ?_
        refine ar_goto 7 dX12_engravesAll_58 (by decide) ?_
        exact am_V.wk (am_s (am_s (am_s (am_s (am_s am_0))))) ((lp_in H) _ _ _ _ _ rfl)
      · replace H := wp_f c2 H
        refine rl_a0 dX12_engravesAll_29 ?_
        refine rg_R (.inl 0) 2 dX12_engravesAll_30 fg_X12_20 rfl rfl rfl (ok_M rfl) ?_
        refine ar_bipush (iI (8)) dX12_engravesAll_33 rfl ?_
        obtain ⟨b2, H⟩ := wp_g H
        refine ar_iald dX12_engravesAll_35 rfl (ok_M rfl) (ib_in b2) ?_
        refine rl_i1 dX12_engravesAll_36 ?_
        refine ar_ic_le 43 dX12_engravesAll_37 (by decide) (fun c3 => ?_) (fun c3 => ?_)
        · replace H := wp_t c3 H
          refine rl_i3 dX12_engravesAll_43 ?_
          refine rl_a0 dX12_engravesAll_44 ?_
          refine rl_i4 dX12_engravesAll_45 ?_
          obtain ⟨a2, e2, H⟩ := wp_b H
          refine rc_V1i dX12_engravesAll_47 ml_X12_344 mc_X12_engraves (c_X12_engraves e2) rfl rfl rfl (ok_M rfl) rfl rfl rfl ?_
          refine ar_iadd dX12_engravesAll_50 ?_
          refine rs_i3 dX12_engravesAll_51 rfl trivial ?_
          refine rn_1_2 dX12_engravesAll_52 rfl trivial ?_
          refine rn_1_4 dX12_engravesAll_55 rfl trivial ?_
          refine ar_goto 7 dX12_engravesAll_58 (by decide) ?_
          exact am_V.wk (am_s (am_s (am_s (am_s (am_s am_0))))) ((lp_in H) _ _ _ _ _ rfl)
        · replace H := wp_f c3 H
          refine ar_goto 55 dX12_engravesAll_40 (by decide) ?_
          refine rn_1_4 dX12_engravesAll_55 rfl trivial ?_
          refine ar_goto 7 dX12_engravesAll_58 (by decide) ?_
          exact am_V.wk (am_s (am_s (am_s (am_s (am_s am_0))))) ((lp_in H) _ _ _ _ _ rfl)
theorem c_X12_engravesAll {x1 : Int32} {h : am_H} {a : Int32 × am_H} (e : f_X12_engravesAll x1 h = some a) : am_Mi yX12_engravesAll cX12_engravesAll 5 (some .int) 8 174 [am_r (.inl 0) 0, am_i x1] h a.1 a.2 := by
  refine am_M.ofi (A := [some (am_r (.inl 0) 0), some (am_i x1), none, none, none]) (by decide +kernel) rfl (ble rfl) (fun Q hQ => ?_)
  have H : wp (f_X12_engravesAll x1 h) (fun a => Q (some (am_i a.1)) a.2) := ⟨a, e, hQ⟩
  unfold f_X12_engravesAll at H
  refine ar_iconst (iI (0)) dX12_engravesAll_0 rfl ?_
  refine rs_i2 dX12_engravesAll_1 rfl trivial ?_
  refine ar_iconst (iI (0)) dX12_engravesAll_2 rfl ?_
  refine rs_i3 dX12_engravesAll_3 rfl trivial ?_
  refine ar_iconst (iI (0)) dX12_engravesAll_4 rfl ?_
  refine rs_i4 dX12_engravesAll_5 rfl trivial ?_
  exact am_V.wk (am_s (am_s (am_s (am_s (am_s am_0))))) ((c_X12_engravesAll_L  _ H) _ _ _ _ _ rfl)
noncomputable def f_X12_isArc (x1 : Int32) (h : am_H) : Option Int32 :=
  if ib (iI (0)) 408 then ((f_X12_isIn x1.toInt64 (0 : Int64) (((h.1 (.inl 0) 2 ((iI (0))).toNatClampNeg) - (iI (1))).toInt64)).bind (fun a1 => if zb a1 then (some (a1)) else none)) else none
theorem c_X12_isArc {x1 : Int32} {h : am_H} {a : Int32} (e : f_X12_isArc x1 h = some a) : am_Mi yX12_isArc cX12_isArc 2 (some .boolean) 1 25 [am_r (.inl 0) 0, am_i x1] h a h := by
  refine am_M.ofi (A := [some (am_r (.inl 0) 0), some (am_i x1)]) (by decide +kernel) rfl (ble rfl) (fun Q hQ => ?_)
  have H : wp (f_X12_isArc x1 h) (fun a => Q (some (am_i a)) h) := ⟨a, e, hQ⟩
  unfold f_X12_isArc at H
  refine rl_i1 dX12_isArc_0 ?_
  refine ar_i2l dX12_isArc_1 ?_
  refine ar_lconst (0 : Int64) dX12_isArc_2 rfl ?_
  refine rl_a0 dX12_isArc_3 ?_
  refine rg_R (.inl 0) 2 dX12_isArc_4 fg_X12_20 rfl rfl rfl (ok_M rfl) ?_
  refine ar_iconst (iI (0)) dX12_isArc_7 rfl ?_
  obtain ⟨b1, H⟩ := wp_g H
  refine ar_iald dX12_isArc_8 rfl (ok_M rfl) (ib_in b1) ?_
  refine ar_iconst (iI (1)) dX12_isArc_9 rfl ?_
  refine ar_isub dX12_isArc_10 ?_
  refine ar_i2l dX12_isArc_11 ?_
  obtain ⟨a1, e1, H⟩ := wp_b H
  refine rc_S3i dX12_isArc_12 ml_X12_90 mc_X12_isIn (c_X12_isIn e1) rfl rfl rfl ?_
  obtain ⟨b2, H⟩ := wp_g H
  replace H := wp_s H
  exact ar_iret dX12_isArc_15 rfl (zb_n b2) H
noncomputable def f_X12_isLetter0 (x1 : Int32) (h : am_H) : Option Int32 :=
  if ib (iI (1)) 408 then ((f_X12_isIn x1.toInt64 (0 : Int64) (((h.1 (.inl 0) 2 ((iI (1))).toNatClampNeg) - (iI (1))).toInt64)).bind (fun a1 => if zb a1 then (some (a1)) else none)) else none
theorem c_X12_isLetter0 {x1 : Int32} {h : am_H} {a : Int32} (e : f_X12_isLetter0 x1 h = some a) : am_Mi yX12_isLetter0 cX12_isLetter0 2 (some .boolean) 1 25 [am_r (.inl 0) 0, am_i x1] h a h := by
  refine am_M.ofi (A := [some (am_r (.inl 0) 0), some (am_i x1)]) (by decide +kernel) rfl (ble rfl) (fun Q hQ => ?_)
  have H : wp (f_X12_isLetter0 x1 h) (fun a => Q (some (am_i a)) h) := ⟨a, e, hQ⟩
  unfold f_X12_isLetter0 at H
  refine rl_i1 dX12_isLetter0_0 ?_
  refine ar_i2l dX12_isLetter0_1 ?_
  refine ar_lconst (0 : Int64) dX12_isLetter0_2 rfl ?_
  refine rl_a0 dX12_isLetter0_3 ?_
  refine rg_R (.inl 0) 2 dX12_isLetter0_4 fg_X12_20 rfl rfl rfl (ok_M rfl) ?_
  refine ar_iconst (iI (1)) dX12_isLetter0_7 rfl ?_
  obtain ⟨b1, H⟩ := wp_g H
  refine ar_iald dX12_isLetter0_8 rfl (ok_M rfl) (ib_in b1) ?_
  refine ar_iconst (iI (1)) dX12_isLetter0_9 rfl ?_
  refine ar_isub dX12_isLetter0_10 ?_
  refine ar_i2l dX12_isLetter0_11 ?_
  obtain ⟨a1, e1, H⟩ := wp_b H
  refine rc_S3i dX12_isLetter0_12 ml_X12_90 mc_X12_isIn (c_X12_isIn e1) rfl rfl rfl ?_
  obtain ⟨b2, H⟩ := wp_g H
  replace H := wp_s H
  exact ar_iret dX12_isLetter0_15 rfl (zb_n b2) H
noncomputable def f_X12_isRoom (x1 : Int32) (h : am_H) : Option Int32 :=
  if ib (iI (1)) 408 then ((f_X12_isIn x1.toInt64 (0 : Int64) ((h.1 (.inl 0) 2 ((iI (1))).toNatClampNeg).toInt64)).bind (fun a1 => if zb a1 then (some (a1)) else none)) else none
theorem c_X12_isRoom {x1 : Int32} {h : am_H} {a : Int32} (e : f_X12_isRoom x1 h = some a) : am_Mi yX12_isRoom cX12_isRoom 2 (some .boolean) 1 25 [am_r (.inl 0) 0, am_i x1] h a h := by
  refine am_M.ofi (A := [some (am_r (.inl 0) 0), some (am_i x1)]) (by decide +kernel) rfl (ble rfl) (fun Q hQ => ?_)
  have H : wp (f_X12_isRoom x1 h) (fun a => Q (some (am_i a)) h) := ⟨a, e, hQ⟩
  unfold f_X12_isRoom at H
  refine rl_i1 dX12_isRoom_0 ?_
  refine ar_i2l dX12_isRoom_1 ?_
  refine ar_lconst (0 : Int64) dX12_isRoom_2 rfl ?_
  refine rl_a0 dX12_isRoom_3 ?_
  refine rg_R (.inl 0) 2 dX12_isRoom_4 fg_X12_20 rfl rfl rfl (ok_M rfl) ?_
  refine ar_iconst (iI (1)) dX12_isRoom_7 rfl ?_
  obtain ⟨b1, H⟩ := wp_g H
  refine ar_iald dX12_isRoom_8 rfl (ok_M rfl) (ib_in b1) ?_
  refine ar_i2l dX12_isRoom_9 ?_
  obtain ⟨a1, e1, H⟩ := wp_b H
  refine rc_S3i dX12_isRoom_10 ml_X12_90 mc_X12_isIn (c_X12_isIn e1) rfl rfl rfl ?_
  obtain ⟨b2, H⟩ := wp_g H
  replace H := wp_s H
  exact ar_iret dX12_isRoom_13 rfl (zb_n b2) H
noncomputable def f_X12_isKind (x1 : Int32) (h : am_H) : Option Int32 :=
  if ib (iI (2)) 408 then ((f_X12_isIn x1.toInt64 (0 : Int64) (((h.1 (.inl 0) 2 ((iI (2))).toNatClampNeg) - (iI (1))).toInt64)).bind (fun a1 => if zb a1 then (some (a1)) else none)) else none
theorem c_X12_isKind {x1 : Int32} {h : am_H} {a : Int32} (e : f_X12_isKind x1 h = some a) : am_Mi yX12_isKind cX12_isKind 2 (some .boolean) 1 25 [am_r (.inl 0) 0, am_i x1] h a h := by
  refine am_M.ofi (A := [some (am_r (.inl 0) 0), some (am_i x1)]) (by decide +kernel) rfl (ble rfl) (fun Q hQ => ?_)
  have H : wp (f_X12_isKind x1 h) (fun a => Q (some (am_i a)) h) := ⟨a, e, hQ⟩
  unfold f_X12_isKind at H
  refine rl_i1 dX12_isKind_0 ?_
  refine ar_i2l dX12_isKind_1 ?_
  refine ar_lconst (0 : Int64) dX12_isKind_2 rfl ?_
  refine rl_a0 dX12_isKind_3 ?_
  refine rg_R (.inl 0) 2 dX12_isKind_4 fg_X12_20 rfl rfl rfl (ok_M rfl) ?_
  refine ar_iconst (iI (2)) dX12_isKind_7 rfl ?_
  obtain ⟨b1, H⟩ := wp_g H
  refine ar_iald dX12_isKind_8 rfl (ok_M rfl) (ib_in b1) ?_
  refine ar_iconst (iI (1)) dX12_isKind_9 rfl ?_
  refine ar_isub dX12_isKind_10 ?_
  refine ar_i2l dX12_isKind_11 ?_
  obtain ⟨a1, e1, H⟩ := wp_b H
  refine rc_S3i dX12_isKind_12 ml_X12_90 mc_X12_isIn (c_X12_isIn e1) rfl rfl rfl ?_
  obtain ⟨b2, H⟩ := wp_g H
  replace H := wp_s H
  exact ar_iret dX12_isKind_15 rfl (zb_n b2) H
noncomputable def f_X12_isScratch (x1 : Int32) (h : am_H) : Option Int32 :=
  if ib (iI (8)) 408 then ((f_X12_isIn x1.toInt64 (0 : Int64) (((h.1 (.inl 0) 2 ((iI (8))).toNatClampNeg) - (iI (1))).toInt64)).bind (fun a1 => if zb a1 then (some (a1)) else none)) else none
theorem c_X12_isScratch {x1 : Int32} {h : am_H} {a : Int32} (e : f_X12_isScratch x1 h = some a) : am_Mi yX12_isScratch cX12_isScratch 2 (some .boolean) 1 25 [am_r (.inl 0) 0, am_i x1] h a h := by
  refine am_M.ofi (A := [some (am_r (.inl 0) 0), some (am_i x1)]) (by decide +kernel) rfl (ble rfl) (fun Q hQ => ?_)
  have H : wp (f_X12_isScratch x1 h) (fun a => Q (some (am_i a)) h) := ⟨a, e, hQ⟩
  unfold f_X12_isScratch at H
  refine rl_i1 dX12_isScratch_0 ?_
  refine ar_i2l dX12_isScratch_1 ?_
  refine ar_lconst (0 : Int64) dX12_isScratch_2 rfl ?_
  refine rl_a0 dX12_isScratch_3 ?_
  refine rg_R (.inl 0) 2 dX12_isScratch_4 fg_X12_20 rfl rfl rfl (ok_M rfl) ?_
  refine ar_bipush (iI (8)) dX12_isScratch_7 rfl ?_
  obtain ⟨b1, H⟩ := wp_g H
  refine ar_iald dX12_isScratch_9 rfl (ok_M rfl) (ib_in b1) ?_
  refine ar_iconst (iI (1)) dX12_isScratch_10 rfl ?_
  refine ar_isub dX12_isScratch_11 ?_
  refine ar_i2l dX12_isScratch_12 ?_
  obtain ⟨a1, e1, H⟩ := wp_b H
  refine rc_S3i dX12_isScratch_13 ml_X12_90 mc_X12_isIn (c_X12_isIn e1) rfl rfl rfl ?_
  obtain ⟨b2, H⟩ := wp_g H
  replace H := wp_s H
  exact ar_iret dX12_isScratch_16 rfl (zb_n b2) H
noncomputable def f_X12_setting (x1 : Int32) (h : am_H) : Option (Int32 × am_H) :=
  (f_X12_isIn x1.toInt64 (0 : Int64) (13 : Int64)).bind (fun a1 => (f_X12_goes a1 h).bind (fun a2 => if a2.1 = 0 then (some (((iI (0)), a2.2))) else (if x1.toInt = 0 then (if ib (iI (0)) 408 then (some (((a2.2.1 (.inl 0) 2 ((iI (0))).toNatClampNeg), a2.2))) else none) else (if x1.toInt = 1 then (if ib (iI (1)) 408 then (some (((a2.2.1 (.inl 0) 2 ((iI (1))).toNatClampNeg), a2.2))) else none) else (if x1.toInt = 2 then (if ib (iI (2)) 408 then (some (((a2.2.1 (.inl 0) 2 ((iI (2))).toNatClampNeg), a2.2))) else none) else (if x1.toInt = 3 then ((f_X12_wholeTurn a2.2).bind (fun a3 => some ((a3, a2.2)))) else (if x1.toInt = 4 then ((f_X12_wholeParts a2.2).bind (fun a3 => some ((a3, a2.2)))) else (if x1.toInt = 5 then (if ib (iI (3)) 408 then (some (((a2.2.1 (.inl 0) 2 ((iI (3))).toNatClampNeg), a2.2))) else none) else (if x1.toInt = 6 then (if ib (iI (4)) 408 then (some (((a2.2.1 (.inl 0) 2 ((iI (4))).toNatClampNeg), a2.2))) else none) else (if x1.toInt = 7 then (if ib (iI (8)) 408 then (some (((a2.2.1 (.inl 0) 2 ((iI (8))).toNatClampNeg), a2.2))) else none) else (if x1.toInt = 8 then ((f_X12_engravedMany a2.2).bind (fun a3 => some ((a3, a2.2)))) else (if x1.toInt = 9 then ((f_X12_spoiledMany a2.2).bind (fun a3 => some ((a3, a2.2)))) else (if x1.toInt = 10 then (if ib (iI (5)) 408 then (some (((a2.2.1 (.inl 0) 2 ((iI (5))).toNatClampNeg), a2.2))) else none) else (if x1.toInt = 11 then (if ib (iI (6)) 408 then (some (((a2.2.1 (.inl 0) 2 ((iI (6))).toNatClampNeg), a2.2))) else none) else (if x1.toInt = 12 then (if ib (iI (7)) 408 then (some (((a2.2.1 (.inl 0) 2 ((iI (7))).toNatClampNeg), a2.2))) else none) else (some (((a2.2.1 (.inl 0) 0 21), a2.2))))))))))))))))))
theorem c_X12_setting {x1 : Int32} {h : am_H} {a : Int32 × am_H} (e : f_X12_setting x1 h = some a) : am_Mi yX12_setting cX12_setting 2 (some .int) 10 218 [am_r (.inl 0) 0, am_i x1] h a.1 a.2 := by
  refine am_M.ofi (A := [some (am_r (.inl 0) 0), some (am_i x1)]) (by decide +kernel) rfl (ble rfl) (fun Q hQ => ?_)
  have H : wp (f_X12_setting x1 h) (fun a => Q (some (am_i a.1)) a.2) := ⟨a, e, hQ⟩
  unfold f_X12_setting at H
  refine rl_a0 dX12_setting_0 ?_
  refine rl_i1 dX12_setting_1 ?_
  refine ar_i2l dX12_setting_2 ?_
  refine ar_lconst (0 : Int64) dX12_setting_3 rfl ?_
  refine ar_ldc2 (13) dX12_setting_4 kc_X12_347 ?_
  obtain ⟨a1, e1, H⟩ := wp_b H
  refine rc_S3i dX12_setting_7 ml_X12_90 mc_X12_isIn (c_X12_isIn e1) rfl rfl rfl ?_
  obtain ⟨a2, e2, H⟩ := wp_b H
  refine rc_V1i dX12_setting_10 ml_X12_82 mc_X12_goes (c_X12_goes e2) rfl rfl rfl (ok_M rfl) rfl rfl rfl ?_
  refine ar_if_ne 18 dX12_setting_13 (by decide) (fun c1 => ?_) (fun c1 => ?_)
  · replace H := wp_f c1 H
    refine rl_i1 dX12_setting_18 ?_
    rcases Decidable.em (x1.toInt = 0) with c2_0 | c2_0
    · replace H := wp_t c2_0 H
      refine ar_swIn 84 dX12_setting_19 (by omega) (by omega) (by rw [c2_0]; rfl) (by decide) ?_
      refine rl_a0 dX12_setting_84 ?_
      refine rg_R (.inl 0) 2 dX12_setting_85 fg_X12_20 rfl rfl rfl (ok_M rfl) ?_
      refine ar_iconst (iI (0)) dX12_setting_88 rfl ?_
      obtain ⟨b1, H⟩ := wp_g H
      refine ar_iald dX12_setting_89 rfl (ok_M rfl) (ib_in b1) ?_
      replace H := wp_s H
      exact ar_iret dX12_setting_90 rfl rfl H
    replace H := wp_f c2_0 H
    rcases Decidable.em (x1.toInt = 1) with c2_1 | c2_1
    · replace H := wp_t c2_1 H
      refine ar_swIn 91 dX12_setting_19 (by omega) (by omega) (by rw [c2_1]; rfl) (by decide) ?_
      refine rl_a0 dX12_setting_91 ?_
      refine rg_R (.inl 0) 2 dX12_setting_92 fg_X12_20 rfl rfl rfl (ok_M rfl) ?_
      refine ar_iconst (iI (1)) dX12_setting_95 rfl ?_
      obtain ⟨b1, H⟩ := wp_g H
      refine ar_iald dX12_setting_96 rfl (ok_M rfl) (ib_in b1) ?_
      replace H := wp_s H
      exact ar_iret dX12_setting_97 rfl rfl H
    replace H := wp_f c2_1 H
    rcases Decidable.em (x1.toInt = 2) with c2_2 | c2_2
    · replace H := wp_t c2_2 H
      refine ar_swIn 98 dX12_setting_19 (by omega) (by omega) (by rw [c2_2]; rfl) (by decide) ?_
      refine rl_a0 dX12_setting_98 ?_
      refine rg_R (.inl 0) 2 dX12_setting_99 fg_X12_20 rfl rfl rfl (ok_M rfl) ?_
      refine ar_iconst (iI (2)) dX12_setting_102 rfl ?_
      obtain ⟨b1, H⟩ := wp_g H
      refine ar_iald dX12_setting_103 rfl (ok_M rfl) (ib_in b1) ?_
      replace H := wp_s H
      exact ar_iret dX12_setting_104 rfl rfl H
    replace H := wp_f c2_2 H
    rcases Decidable.em (x1.toInt = 3) with c2_3 | c2_3
    · replace H := wp_t c2_3 H
      refine ar_swIn 105 dX12_setting_19 (by omega) (by omega) (by rw [c2_3]; rfl) (by decide) ?_
      refine rl_a0 dX12_setting_105 ?_
      obtain ⟨a3, e3, H⟩ := wp_b H
      refine rc_V0i dX12_setting_106 ml_X12_277 mc_X12_wholeTurn (c_X12_wholeTurn e3) rfl rfl rfl (ok_M rfl) rfl rfl rfl ?_
      replace H := wp_s H
      exact ar_iret dX12_setting_109 rfl rfl H
    replace H := wp_f c2_3 H
    rcases Decidable.em (x1.toInt = 4) with c2_4 | c2_4
    · replace H := wp_t c2_4 H
      refine ar_swIn 110 dX12_setting_19 (by omega) (by omega) (by rw [c2_4]; rfl) (by decide) ?_
      refine rl_a0 dX12_setting_110 ?_
      obtain ⟨a3, e3, H⟩ := wp_b H
      refine rc_V0i dX12_setting_111 ml_X12_295 mc_X12_wholeParts (c_X12_wholeParts e3) rfl rfl rfl (ok_M rfl) rfl rfl rfl ?_
      replace H := wp_s H
      exact ar_iret dX12_setting_114 rfl rfl H
    replace H := wp_f c2_4 H
    rcases Decidable.em (x1.toInt = 5) with c2_5 | c2_5
    · replace H := wp_t c2_5 H
      refine ar_swIn 115 dX12_setting_19 (by omega) (by omega) (by rw [c2_5]; rfl) (by decide) ?_
      refine rl_a0 dX12_setting_115 ?_
      refine rg_R (.inl 0) 2 dX12_setting_116 fg_X12_20 rfl rfl rfl (ok_M rfl) ?_
      refine ar_iconst (iI (3)) dX12_setting_119 rfl ?_
      obtain ⟨b1, H⟩ := wp_g H
      refine ar_iald dX12_setting_120 rfl (ok_M rfl) (ib_in b1) ?_
      replace H := wp_s H
      exact ar_iret dX12_setting_121 rfl rfl H
    replace H := wp_f c2_5 H
    rcases Decidable.em (x1.toInt = 6) with c2_6 | c2_6
    · replace H := wp_t c2_6 H
      refine ar_swIn 122 dX12_setting_19 (by omega) (by omega) (by rw [c2_6]; rfl) (by decide) ?_
      refine rl_a0 dX12_setting_122 ?_
      refine rg_R (.inl 0) 2 dX12_setting_123 fg_X12_20 rfl rfl rfl (ok_M rfl) ?_
      refine ar_iconst (iI (4)) dX12_setting_126 rfl ?_
      obtain ⟨b1, H⟩ := wp_g H
      refine ar_iald dX12_setting_127 rfl (ok_M rfl) (ib_in b1) ?_
      replace H := wp_s H
      exact ar_iret dX12_setting_128 rfl rfl H
    replace H := wp_f c2_6 H
    rcases Decidable.em (x1.toInt = 7) with c2_7 | c2_7
    · replace H := wp_t c2_7 H
      refine ar_swIn 129 dX12_setting_19 (by omega) (by omega) (by rw [c2_7]; rfl) (by decide) ?_
      refine rl_a0 dX12_setting_129 ?_
      refine rg_R (.inl 0) 2 dX12_setting_130 fg_X12_20 rfl rfl rfl (ok_M rfl) ?_
      refine ar_bipush (iI (8)) dX12_setting_133 rfl ?_
      obtain ⟨b1, H⟩ := wp_g H
      refine ar_iald dX12_setting_135 rfl (ok_M rfl) (ib_in b1) ?_
      replace H := wp_s H
      exact ar_iret dX12_setting_136 rfl rfl H
    replace H := wp_f c2_7 H
    rcases Decidable.em (x1.toInt = 8) with c2_8 | c2_8
    · replace H := wp_t c2_8 H
      refine ar_swIn 137 dX12_setting_19 (by omega) (by omega) (by rw [c2_8]; rfl) (by decide) ?_
      refine rl_a0 dX12_setting_137 ?_
      obtain ⟨a3, e3, H⟩ := wp_b H
      refine rc_V0i dX12_setting_138 ml_X12_349 mc_X12_engravedMany (c_X12_engravedMany e3) rfl rfl rfl (ok_M rfl) rfl rfl rfl ?_
      replace H := wp_s H
      exact ar_iret dX12_setting_141 rfl rfl H
    replace H := wp_f c2_8 H
    rcases Decidable.em (x1.toInt = 9) with c2_9 | c2_9
    · replace H := wp_t c2_9 H
      refine ar_swIn 142 dX12_setting_19 (by omega) (by omega) (by rw [c2_9]; rfl) (by decide) ?_
      refine rl_a0 dX12_setting_142 ?_
      obtain ⟨a3, e3, H⟩ := wp_b H
      refine rc_V0i dX12_setting_143 ml_X12_352 mc_X12_spoiledMany (c_X12_spoiledMany e3) rfl rfl rfl (ok_M rfl) rfl rfl rfl ?_
      replace H := wp_s H
      exact ar_iret dX12_setting_146 rfl rfl H
    replace H := wp_f c2_9 H
    rcases Decidable.em (x1.toInt = 10) with c2_10 | c2_10
    · replace H := wp_t c2_10 H
      refine ar_swIn 147 dX12_setting_19 (by omega) (by omega) (by rw [c2_10]; rfl) (by decide) ?_
      refine rl_a0 dX12_setting_147 ?_
      refine rg_R (.inl 0) 2 dX12_setting_148 fg_X12_20 rfl rfl rfl (ok_M rfl) ?_
      refine ar_iconst (iI (5)) dX12_setting_151 rfl ?_
      obtain ⟨b1, H⟩ := wp_g H
      refine ar_iald dX12_setting_152 rfl (ok_M rfl) (ib_in b1) ?_
      replace H := wp_s H
      exact ar_iret dX12_setting_153 rfl rfl H
    replace H := wp_f c2_10 H
    rcases Decidable.em (x1.toInt = 11) with c2_11 | c2_11
    · replace H := wp_t c2_11 H
      refine ar_swIn 154 dX12_setting_19 (by omega) (by omega) (by rw [c2_11]; rfl) (by decide) ?_
      refine rl_a0 dX12_setting_154 ?_
      refine rg_R (.inl 0) 2 dX12_setting_155 fg_X12_20 rfl rfl rfl (ok_M rfl) ?_
      refine ar_bipush (iI (6)) dX12_setting_158 rfl ?_
      obtain ⟨b1, H⟩ := wp_g H
      refine ar_iald dX12_setting_160 rfl (ok_M rfl) (ib_in b1) ?_
      replace H := wp_s H
      exact ar_iret dX12_setting_161 rfl rfl H
    replace H := wp_f c2_11 H
    rcases Decidable.em (x1.toInt = 12) with c2_12 | c2_12
    · replace H := wp_t c2_12 H
      refine ar_swIn 162 dX12_setting_19 (by omega) (by omega) (by rw [c2_12]; rfl) (by decide) ?_
      refine rl_a0 dX12_setting_162 ?_
      refine rg_R (.inl 0) 2 dX12_setting_163 fg_X12_20 rfl rfl rfl (ok_M rfl) ?_
      refine ar_bipush (iI (7)) dX12_setting_166 rfl ?_
      obtain ⟨b1, H⟩ := wp_g H
      refine ar_iald dX12_setting_168 rfl (ok_M rfl) (ib_in b1) ?_
      replace H := wp_s H
      exact ar_iret dX12_setting_169 rfl rfl H
    replace H := wp_f c2_12 H
    refine ar_swOut 170 dX12_setting_19 (by omega) (by decide) ?_
    refine rl_a0 dX12_setting_170 ?_
    refine ar_getI dX12_setting_171 fg_X12_155 rfl rfl (ok_M rfl) ?_
    replace H := wp_s H
    exact ar_iret dX12_setting_174 rfl rfl H
  · replace H := wp_t c1 H
    refine ar_iconst (iI (0)) dX12_setting_16 rfl ?_
    replace H := wp_s H
    exact ar_iret dX12_setting_17 rfl rfl H
noncomputable def s_X12_centresOn  (h : am_H) : am_S Unit → Option (am_S Unit ⊕ Int32) := fun s => match s with
  | (4, [x1, x2, x3], [], [], ()) => if ib (iI (1)) 408 then (if (h.1 (.inl 0) 2 ((iI (1))).toNatClampNeg) ≤ x3 then (some (.inr (x2))) else ((f_X12_centre x3 h).bind (fun a1 => (f_X12_arcOf a1 h).bind (fun a2 => if a2 = x1 then ((f_X12_truth (iI (1))).bind (fun a3 => some (.inl (4, [x1, (x2 + a3), (x3 + 1)], [], [], ())))) else ((f_X12_truth (iI (0))).bind (fun a3 => some (.inl (4, [x1, (x2 + a3), (x3 + 1)], [], [], ())))))))) else none
  | _ => none
noncomputable def f_X12_centresOn_4  (x1 : Int32) (x2 : Int32) (x3 : Int32) (h : am_H) : Option Int32 := lp (s_X12_centresOn h) (4, [x1, x2, x3], [], [], ())
theorem e_X12_centresOn_4  (x1 : Int32) (x2 : Int32) (x3 : Int32) (h : am_H) : f_X12_centresOn_4 x1 x2 x3 h = (if ib (iI (1)) 408 then (if (h.1 (.inl 0) 2 ((iI (1))).toNatClampNeg) ≤ x3 then (some (x2)) else ((f_X12_centre x3 h).bind (fun a1 => (f_X12_arcOf a1 h).bind (fun a2 => if a2 = x1 then ((f_X12_truth (iI (1))).bind (fun a3 => f_X12_centresOn_4 x1 (x2 + a3) (x3 + 1) h)) else ((f_X12_truth (iI (0))).bind (fun a3 => f_X12_centresOn_4 x1 (x2 + a3) (x3 + 1) h)))))) else none) := by
  show lp _ _ = _
  rw [lp_eq, s_X12_centresOn]
  simp only [lpk_i, lpk_b, lpk_l, lpk_n, lpk_j, lpk_r] <;> rfl
noncomputable def f_X12_centresOn (x1 : Int32) (h : am_H) : Option Int32 :=
  f_X12_centresOn_4 x1 (iI (0)) (iI (0)) h
theorem c_X12_centresOn_L  {h : am_H} {Q : Option am_v → am_H → Prop} : ∀ s, wp (lp (s_X12_centresOn h) s) (fun a => Q (some (am_i a)) h) → ((∀ x1 x2 x3, s = (4, [x1, x2, x3], [], [], ()) → am_V RX12 cX12_centresOn 4 (some .int) 5 107 0 0 none (am_Tm cX12_centresOn (some .int) Q) 0 0 4 [some (am_r (.inl 0) 0), some (am_i x1), some (am_i x2), some (am_i x3)] [] h)) := by
  refine lp_ind _ _ (fun s H => fun x1 x2 x3 e => ?_)
  · subst e
    rw [s_X12_centresOn] at H
    refine rl_i3 dX12_centresOn_4 ?_
    refine rl_a0 dX12_centresOn_5 ?_
    refine rg_R (.inl 0) 2 dX12_centresOn_6 fg_X12_20 rfl rfl rfl (ok_M rfl) ?_
    refine ar_iconst (iI (1)) dX12_centresOn_9 rfl ?_
    obtain ⟨b1, H⟩ := wp_g H
    refine ar_iald dX12_centresOn_10 rfl (ok_M rfl) (ib_in b1) ?_
    refine ar_ic_ge 44 dX12_centresOn_11 (by decide) (fun c1 => ?_) (fun c1 => ?_)
    · replace H := wp_t c1 H
      refine rl_i2 dX12_centresOn_44 ?_
      replace H := lp_re H
      exact ar_iret dX12_centresOn_45 rfl rfl H
    · replace H := wp_f c1 H
      refine rl_i2 dX12_centresOn_14 ?_
      refine rl_a0 dX12_centresOn_15 ?_
      refine rl_a0 dX12_centresOn_16 ?_
      refine rl_i3 dX12_centresOn_17 ?_
      obtain ⟨a1, e1, H⟩ := wp_b H
      refine rc_V1i dX12_centresOn_18 ml_X12_283 mc_X12_centre (c_X12_centre e1) rfl rfl rfl (ok_M rfl) rfl rfl rfl ?_
      obtain ⟨a2, e2, H⟩ := wp_b H
      refine rc_V1i dX12_centresOn_21 ml_X12_268 mc_X12_arcOf (c_X12_arcOf e2) rfl rfl rfl (ok_M rfl) rfl rfl rfl ?_
      refine rl_i1 dX12_centresOn_24 ?_
      refine ar_ic_ne 32 dX12_centresOn_25 (by decide) (fun c2 => ?_) (fun c2 => ?_)
      · replace H := wp_f c2 H
        refine ar_iconst (iI (0)) dX12_centresOn_32 rfl ?_
        obtain ⟨a3, e3, H⟩ := wp_b H
        refine rc_S1i dX12_centresOn_33 ml_X12_75 mc_X12_truth (c_X12_truth e3) rfl rfl rfl ?_
        refine ar_iadd dX12_centresOn_36 ?_
        refine rs_i2 dX12_centresOn_37 rfl trivial ?_
        refine rn_1_3 dX12_centresOn_38 rfl trivial ?_
        refine ar_goto 4 dX12_centresOn_41 (by decide) ?_
        exact am_V.wk (am_s (am_s (am_s (am_s am_0)))) ((lp_in H) _ _ _ rfl)
      · replace H := wp_t c2 H
        refine ar_iconst (iI (1)) dX12_centresOn_28 rfl ?_
        refine ar_goto 33 dX12_centresOn_29 (by decide) ?_
        obtain ⟨a3, e3, H⟩ := wp_b H
        refine rc_S1i dX12_centresOn_33 ml_X12_75 mc_X12_truth (c_X12_truth e3) rfl rfl rfl ?_
        refine ar_iadd dX12_centresOn_36 ?_
        refine rs_i2 dX12_centresOn_37 rfl trivial ?_
        refine rn_1_3 dX12_centresOn_38 rfl trivial ?_
        refine ar_goto 4 dX12_centresOn_41 (by decide) ?_
        exact am_V.wk (am_s (am_s (am_s (am_s am_0)))) ((lp_in H) _ _ _ rfl)
theorem c_X12_centresOn {x1 : Int32} {h : am_H} {a : Int32} (e : f_X12_centresOn x1 h = some a) : am_Mi yX12_centresOn cX12_centresOn 4 (some .int) 5 107 [am_r (.inl 0) 0, am_i x1] h a h := by
  refine am_M.ofi (A := [some (am_r (.inl 0) 0), some (am_i x1), none, none]) (by decide +kernel) rfl (ble rfl) (fun Q hQ => ?_)
  have H : wp (f_X12_centresOn x1 h) (fun a => Q (some (am_i a)) h) := ⟨a, e, hQ⟩
  unfold f_X12_centresOn at H
  refine ar_iconst (iI (0)) dX12_centresOn_0 rfl ?_
  refine rs_i2 dX12_centresOn_1 rfl trivial ?_
  refine ar_iconst (iI (0)) dX12_centresOn_2 rfl ?_
  refine rs_i3 dX12_centresOn_3 rfl trivial ?_
  exact am_V.wk (am_s (am_s (am_s (am_s am_0)))) ((c_X12_centresOn_L  _ H) _ _ _ rfl)
noncomputable def f_X12_arc (x1 : Int32) (x2 : Int32) (h : am_H) : Option (Int32 × am_H) :=
  (f_X12_isArc x1 h).bind (fun a1 => (f_X12_isIn x2.toInt64 (0 : Int64) (6 : Int64)).bind (fun a2 => (f_X12_goesBoth a1 a2 h).bind (fun a3 => if a3.1 = 0 then (some (((iI (0)), a3.2))) else (if x2.toInt = 4 then ((f_X12_turnBefore x1 a3.2).bind (fun a4 => some ((a4, a3.2)))) else (if x2.toInt = 5 then ((f_X12_partsBefore x1 a3.2).bind (fun a4 => some ((a4, a3.2)))) else (if x2.toInt = 6 then ((f_X12_centresOn x1 a3.2).bind (fun a4 => some ((a4, a3.2)))) else ((f_X12_ofArc x1 x2 a3.2).bind (fun a4 => some ((a4, a3.2))))))))))
theorem c_X12_arc {x1 : Int32} {x2 : Int32} {h : am_H} {a : Int32 × am_H} (e : f_X12_arc x1 x2 h = some a) : am_Mi yX12_arc cX12_arc 3 (some .int) 6 130 [am_r (.inl 0) 0, am_i x1, am_i x2] h a.1 a.2 := by
  refine am_M.ofi (A := [some (am_r (.inl 0) 0), some (am_i x1), some (am_i x2)]) (by decide +kernel) rfl (ble rfl) (fun Q hQ => ?_)
  have H : wp (f_X12_arc x1 x2 h) (fun a => Q (some (am_i a.1)) a.2) := ⟨a, e, hQ⟩
  unfold f_X12_arc at H
  refine rl_a0 dX12_arc_0 ?_
  refine rl_a0 dX12_arc_1 ?_
  refine rl_i1 dX12_arc_2 ?_
  obtain ⟨a1, e1, H⟩ := wp_b H
  refine rc_V1i dX12_arc_3 ml_X12_355 mc_X12_isArc (c_X12_isArc e1) rfl rfl rfl (ok_M rfl) rfl rfl rfl ?_
  refine rl_i2 dX12_arc_6 ?_
  refine ar_i2l dX12_arc_7 ?_
  refine ar_lconst (0 : Int64) dX12_arc_8 rfl ?_
  refine ar_ldc2 (6) dX12_arc_9 kc_X12_358 ?_
  obtain ⟨a2, e2, H⟩ := wp_b H
  refine rc_S3i dX12_arc_12 ml_X12_90 mc_X12_isIn (c_X12_isIn e2) rfl rfl rfl ?_
  obtain ⟨a3, e3, H⟩ := wp_b H
  refine rc_V2i dX12_arc_15 ml_X12_360 mc_X12_goesBoth (c_X12_goesBoth e3) rfl rfl rfl (ok_M rfl) rfl rfl rfl ?_
  refine ar_if_ne 23 dX12_arc_18 (by decide) (fun c1 => ?_) (fun c1 => ?_)
  · replace H := wp_f c1 H
    refine rl_i2 dX12_arc_23 ?_
    rcases Decidable.em (x2.toInt = 4) with c2_0 | c2_0
    · replace H := wp_t c2_0 H
      refine ar_swIn 52 dX12_arc_24 (by omega) (by omega) (by rw [c2_0]; rfl) (by decide) ?_
      refine rl_a0 dX12_arc_52 ?_
      refine rl_i1 dX12_arc_53 ?_
      obtain ⟨a4, e4, H⟩ := wp_b H
      refine rc_V1i dX12_arc_54 ml_X12_262 mc_X12_turnBefore (c_X12_turnBefore e4) rfl rfl rfl (ok_M rfl) rfl rfl rfl ?_
      replace H := wp_s H
      exact ar_iret dX12_arc_57 rfl rfl H
    replace H := wp_f c2_0 H
    rcases Decidable.em (x2.toInt = 5) with c2_1 | c2_1
    · replace H := wp_t c2_1 H
      refine ar_swIn 58 dX12_arc_24 (by omega) (by omega) (by rw [c2_1]; rfl) (by decide) ?_
      refine rl_a0 dX12_arc_58 ?_
      refine rl_i1 dX12_arc_59 ?_
      obtain ⟨a4, e4, H⟩ := wp_b H
      refine rc_V1i dX12_arc_60 ml_X12_265 mc_X12_partsBefore (c_X12_partsBefore e4) rfl rfl rfl (ok_M rfl) rfl rfl rfl ?_
      replace H := wp_s H
      exact ar_iret dX12_arc_63 rfl rfl H
    replace H := wp_f c2_1 H
    rcases Decidable.em (x2.toInt = 6) with c2_2 | c2_2
    · replace H := wp_t c2_2 H
      refine ar_swIn 64 dX12_arc_24 (by omega) (by omega) (by rw [c2_2]; rfl) (by decide) ?_
      refine rl_a0 dX12_arc_64 ?_
      refine rl_i1 dX12_arc_65 ?_
      obtain ⟨a4, e4, H⟩ := wp_b H
      refine rc_V1i dX12_arc_66 ml_X12_364 mc_X12_centresOn (c_X12_centresOn e4) rfl rfl rfl (ok_M rfl) rfl rfl rfl ?_
      replace H := wp_s H
      exact ar_iret dX12_arc_69 rfl rfl H
    replace H := wp_f c2_2 H
    refine ar_swOut 70 dX12_arc_24 (by omega) (by decide) ?_
    refine rl_a0 dX12_arc_70 ?_
    refine rl_i1 dX12_arc_71 ?_
    refine rl_i2 dX12_arc_72 ?_
    obtain ⟨a4, e4, H⟩ := wp_b H
    refine rc_V2i dX12_arc_73 ml_X12_256 mc_X12_ofArc (c_X12_ofArc e4) rfl rfl rfl (ok_M rfl) rfl rfl rfl ?_
    replace H := wp_s H
    exact ar_iret dX12_arc_76 rfl rfl H
  · replace H := wp_t c1 H
    refine ar_iconst (iI (0)) dX12_arc_21 rfl ?_
    replace H := wp_s H
    exact ar_iret dX12_arc_22 rfl rfl H
noncomputable def f_X12_letter (x1 : Int32) (x2 : Int32) (h : am_H) : Option (Int32 × am_H) :=
  (f_X12_isLetter0 x1 h).bind (fun a1 => (f_X12_isIn x2.toInt64 (0 : Int64) (12 : Int64)).bind (fun a2 => (f_X12_goesBoth a1 a2 h).bind (fun a3 => if a3.1 = 0 then (some (((iI (0)), a3.2))) else (if x2.toInt = 0 then ((f_X12_ofLetter x1 (iI (0)) a3.2).bind (fun a4 => some ((a4, a3.2)))) else (if x2.toInt = 1 then ((f_X12_widthOf x1 a3.2).bind (fun a4 => some ((((iI (1000)) * a4), a3.2)))) else (if x2.toInt = 2 then ((f_X12_centre x1 a3.2).bind (fun a4 => some ((a4, a3.2)))) else (if x2.toInt = 3 then ((f_X12_centre x1 a3.2).bind (fun a4 => (f_X12_partsOf a4 a3.2).bind (fun a5 => some ((a5, a3.2))))) else (if x2.toInt = 4 then ((f_X12_leftOf x1 a3.2).bind (fun a4 => some ((a4, a3.2)))) else (if x2.toInt = 5 then ((f_X12_rightOf x1 a3.2).bind (fun a4 => some ((a4, a3.2)))) else (if x2.toInt = 6 then ((f_X12_centre x1 a3.2).bind (fun a4 => (f_X12_headingOf a4 a3.2).bind (fun a5 => some ((a5, a3.2))))) else (if x2.toInt = 7 then ((f_X12_centre x1 a3.2).bind (fun a4 => (f_X12_arcOf a4 a3.2).bind (fun a5 => some ((a5, a3.2))))) else (if x2.toInt = 8 then ((f_X12_ofLetter x1 (iI (1)) a3.2).bind (fun a4 => some ((a4, a3.2)))) else (if x2.toInt = 9 then ((f_X12_isSpoiled x1 a3.2).bind (fun a4 => (f_X12_truth a4).bind (fun a5 => some ((a5, a3.2))))) else (if x2.toInt = 10 then ((f_X12_strokesOf x1 a3.2).bind (fun a4 => some ((a4, a3.2)))) else (if x2.toInt = 11 then ((f_X12_ofLetter x1 (iI (2)) a3.2).bind (fun a4 => some ((a4, a3.2)))) else ((f_X12_scratchesOf x1 a3.2).bind (fun a4 => some ((a4, a3.2)))))))))))))))))))
theorem c_X12_letter {x1 : Int32} {x2 : Int32} {h : am_H} {a : Int32 × am_H} (e : f_X12_letter x1 x2 h = some a) : am_Mi yX12_letter cX12_letter 3 (some .int) 9 196 [am_r (.inl 0) 0, am_i x1, am_i x2] h a.1 a.2 := by
  refine am_M.ofi (A := [some (am_r (.inl 0) 0), some (am_i x1), some (am_i x2)]) (by decide +kernel) rfl (ble rfl) (fun Q hQ => ?_)
  have H : wp (f_X12_letter x1 x2 h) (fun a => Q (some (am_i a.1)) a.2) := ⟨a, e, hQ⟩
  unfold f_X12_letter at H
  refine rl_a0 dX12_letter_0 ?_
  refine rl_a0 dX12_letter_1 ?_
  refine rl_i1 dX12_letter_2 ?_
  obtain ⟨a1, e1, H⟩ := wp_b H
  refine rc_V1i dX12_letter_3 ml_X12_367 mc_X12_isLetter0 (c_X12_isLetter0 e1) rfl rfl rfl (ok_M rfl) rfl rfl rfl ?_
  refine rl_i2 dX12_letter_6 ?_
  refine ar_i2l dX12_letter_7 ?_
  refine ar_lconst (0 : Int64) dX12_letter_8 rfl ?_
  refine ar_ldc2 (12) dX12_letter_9 kc_X12_370 ?_
  obtain ⟨a2, e2, H⟩ := wp_b H
  refine rc_S3i dX12_letter_12 ml_X12_90 mc_X12_isIn (c_X12_isIn e2) rfl rfl rfl ?_
  obtain ⟨a3, e3, H⟩ := wp_b H
  refine rc_V2i dX12_letter_15 ml_X12_360 mc_X12_goesBoth (c_X12_goesBoth e3) rfl rfl rfl (ok_M rfl) rfl rfl rfl ?_
  refine ar_if_ne 23 dX12_letter_18 (by decide) (fun c1 => ?_) (fun c1 => ?_)
  · replace H := wp_f c1 H
    refine rl_i2 dX12_letter_23 ?_
    rcases Decidable.em (x2.toInt = 0) with c2_0 | c2_0
    · replace H := wp_t c2_0 H
      refine ar_swIn 88 dX12_letter_24 (by omega) (by omega) (by rw [c2_0]; rfl) (by decide) ?_
      refine rl_a0 dX12_letter_88 ?_
      refine rl_i1 dX12_letter_89 ?_
      refine ar_iconst (iI (0)) dX12_letter_90 rfl ?_
      obtain ⟨a4, e4, H⟩ := wp_b H
      refine rc_V2i dX12_letter_91 ml_X12_280 mc_X12_ofLetter (c_X12_ofLetter e4) rfl rfl rfl (ok_M rfl) rfl rfl rfl ?_
      replace H := wp_s H
      exact ar_iret dX12_letter_94 rfl rfl H
    replace H := wp_f c2_0 H
    rcases Decidable.em (x2.toInt = 1) with c2_1 | c2_1
    · replace H := wp_t c2_1 H
      refine ar_swIn 95 dX12_letter_24 (by omega) (by omega) (by rw [c2_1]; rfl) (by decide) ?_
      refine ar_sipush (iI (1000)) dX12_letter_95 rfl ?_
      refine rl_a0 dX12_letter_98 ?_
      refine rl_i1 dX12_letter_99 ?_
      obtain ⟨a4, e4, H⟩ := wp_b H
      refine rc_V1i dX12_letter_100 ml_X12_289 mc_X12_widthOf (c_X12_widthOf e4) rfl rfl rfl (ok_M rfl) rfl rfl rfl ?_
      refine ar_imul dX12_letter_103 ?_
      replace H := wp_s H
      exact ar_iret dX12_letter_104 rfl rfl H
    replace H := wp_f c2_1 H
    rcases Decidable.em (x2.toInt = 2) with c2_2 | c2_2
    · replace H := wp_t c2_2 H
      refine ar_swIn 105 dX12_letter_24 (by omega) (by omega) (by rw [c2_2]; rfl) (by decide) ?_
      refine rl_a0 dX12_letter_105 ?_
      refine rl_i1 dX12_letter_106 ?_
      obtain ⟨a4, e4, H⟩ := wp_b H
      refine rc_V1i dX12_letter_107 ml_X12_283 mc_X12_centre (c_X12_centre e4) rfl rfl rfl (ok_M rfl) rfl rfl rfl ?_
      replace H := wp_s H
      exact ar_iret dX12_letter_110 rfl rfl H
    replace H := wp_f c2_2 H
    rcases Decidable.em (x2.toInt = 3) with c2_3 | c2_3
    · replace H := wp_t c2_3 H
      refine ar_swIn 111 dX12_letter_24 (by omega) (by omega) (by rw [c2_3]; rfl) (by decide) ?_
      refine rl_a0 dX12_letter_111 ?_
      refine rl_a0 dX12_letter_112 ?_
      refine rl_i1 dX12_letter_113 ?_
      obtain ⟨a4, e4, H⟩ := wp_b H
      refine rc_V1i dX12_letter_114 ml_X12_283 mc_X12_centre (c_X12_centre e4) rfl rfl rfl (ok_M rfl) rfl rfl rfl ?_
      obtain ⟨a5, e5, H⟩ := wp_b H
      refine rc_V1i dX12_letter_117 ml_X12_286 mc_X12_partsOf (c_X12_partsOf e5) rfl rfl rfl (ok_M rfl) rfl rfl rfl ?_
      replace H := wp_s H
      exact ar_iret dX12_letter_120 rfl rfl H
    replace H := wp_f c2_3 H
    rcases Decidable.em (x2.toInt = 4) with c2_4 | c2_4
    · replace H := wp_t c2_4 H
      refine ar_swIn 121 dX12_letter_24 (by omega) (by omega) (by rw [c2_4]; rfl) (by decide) ?_
      refine rl_a0 dX12_letter_121 ?_
      refine rl_i1 dX12_letter_122 ?_
      obtain ⟨a4, e4, H⟩ := wp_b H
      refine rc_V1i dX12_letter_123 ml_X12_298 mc_X12_leftOf (c_X12_leftOf e4) rfl rfl rfl (ok_M rfl) rfl rfl rfl ?_
      replace H := wp_s H
      exact ar_iret dX12_letter_126 rfl rfl H
    replace H := wp_f c2_4 H
    rcases Decidable.em (x2.toInt = 5) with c2_5 | c2_5
    · replace H := wp_t c2_5 H
      refine ar_swIn 127 dX12_letter_24 (by omega) (by omega) (by rw [c2_5]; rfl) (by decide) ?_
      refine rl_a0 dX12_letter_127 ?_
      refine rl_i1 dX12_letter_128 ?_
      obtain ⟨a4, e4, H⟩ := wp_b H
      refine rc_V1i dX12_letter_129 ml_X12_292 mc_X12_rightOf (c_X12_rightOf e4) rfl rfl rfl (ok_M rfl) rfl rfl rfl ?_
      replace H := wp_s H
      exact ar_iret dX12_letter_132 rfl rfl H
    replace H := wp_f c2_5 H
    rcases Decidable.em (x2.toInt = 6) with c2_6 | c2_6
    · replace H := wp_t c2_6 H
      refine ar_swIn 133 dX12_letter_24 (by omega) (by omega) (by rw [c2_6]; rfl) (by decide) ?_
      refine rl_a0 dX12_letter_133 ?_
      refine rl_a0 dX12_letter_134 ?_
      refine rl_i1 dX12_letter_135 ?_
      obtain ⟨a4, e4, H⟩ := wp_b H
      refine rc_V1i dX12_letter_136 ml_X12_283 mc_X12_centre (c_X12_centre e4) rfl rfl rfl (ok_M rfl) rfl rfl rfl ?_
      obtain ⟨a5, e5, H⟩ := wp_b H
      refine rc_V1i dX12_letter_139 ml_X12_372 mc_X12_headingOf (c_X12_headingOf e5) rfl rfl rfl (ok_M rfl) rfl rfl rfl ?_
      replace H := wp_s H
      exact ar_iret dX12_letter_142 rfl rfl H
    replace H := wp_f c2_6 H
    rcases Decidable.em (x2.toInt = 7) with c2_7 | c2_7
    · replace H := wp_t c2_7 H
      refine ar_swIn 143 dX12_letter_24 (by omega) (by omega) (by rw [c2_7]; rfl) (by decide) ?_
      refine rl_a0 dX12_letter_143 ?_
      refine rl_a0 dX12_letter_144 ?_
      refine rl_i1 dX12_letter_145 ?_
      obtain ⟨a4, e4, H⟩ := wp_b H
      refine rc_V1i dX12_letter_146 ml_X12_283 mc_X12_centre (c_X12_centre e4) rfl rfl rfl (ok_M rfl) rfl rfl rfl ?_
      obtain ⟨a5, e5, H⟩ := wp_b H
      refine rc_V1i dX12_letter_149 ml_X12_268 mc_X12_arcOf (c_X12_arcOf e5) rfl rfl rfl (ok_M rfl) rfl rfl rfl ?_
      replace H := wp_s H
      exact ar_iret dX12_letter_152 rfl rfl H
    replace H := wp_f c2_7 H
    rcases Decidable.em (x2.toInt = 8) with c2_8 | c2_8
    · replace H := wp_t c2_8 H
      refine ar_swIn 153 dX12_letter_24 (by omega) (by omega) (by rw [c2_8]; rfl) (by decide) ?_
      refine rl_a0 dX12_letter_153 ?_
      refine rl_i1 dX12_letter_154 ?_
      refine ar_iconst (iI (1)) dX12_letter_155 rfl ?_
      obtain ⟨a4, e4, H⟩ := wp_b H
      refine rc_V2i dX12_letter_156 ml_X12_280 mc_X12_ofLetter (c_X12_ofLetter e4) rfl rfl rfl (ok_M rfl) rfl rfl rfl ?_
      replace H := wp_s H
      exact ar_iret dX12_letter_159 rfl rfl H
    replace H := wp_f c2_8 H
    rcases Decidable.em (x2.toInt = 9) with c2_9 | c2_9
    · replace H := wp_t c2_9 H
      refine ar_swIn 160 dX12_letter_24 (by omega) (by omega) (by rw [c2_9]; rfl) (by decide) ?_
      refine rl_a0 dX12_letter_160 ?_
      refine rl_i1 dX12_letter_161 ?_
      obtain ⟨a4, e4, H⟩ := wp_b H
      refine rc_V1i dX12_letter_162 ml_X12_322 mc_X12_isSpoiled (c_X12_isSpoiled e4) rfl rfl rfl (ok_M rfl) rfl rfl rfl ?_
      obtain ⟨a5, e5, H⟩ := wp_b H
      refine rc_S1i dX12_letter_165 ml_X12_75 mc_X12_truth (c_X12_truth e5) rfl rfl rfl ?_
      replace H := wp_s H
      exact ar_iret dX12_letter_168 rfl rfl H
    replace H := wp_f c2_9 H
    rcases Decidable.em (x2.toInt = 10) with c2_10 | c2_10
    · replace H := wp_t c2_10 H
      refine ar_swIn 169 dX12_letter_24 (by omega) (by omega) (by rw [c2_10]; rfl) (by decide) ?_
      refine rl_a0 dX12_letter_169 ?_
      refine rl_i1 dX12_letter_170 ?_
      obtain ⟨a4, e4, H⟩ := wp_b H
      refine rc_V1i dX12_letter_171 ml_X12_338 mc_X12_strokesOf (c_X12_strokesOf e4) rfl rfl rfl (ok_M rfl) rfl rfl rfl ?_
      replace H := wp_s H
      exact ar_iret dX12_letter_174 rfl rfl H
    replace H := wp_f c2_10 H
    rcases Decidable.em (x2.toInt = 11) with c2_11 | c2_11
    · replace H := wp_t c2_11 H
      refine ar_swIn 175 dX12_letter_24 (by omega) (by omega) (by rw [c2_11]; rfl) (by decide) ?_
      refine rl_a0 dX12_letter_175 ?_
      refine rl_i1 dX12_letter_176 ?_
      refine ar_iconst (iI (2)) dX12_letter_177 rfl ?_
      obtain ⟨a4, e4, H⟩ := wp_b H
      refine rc_V2i dX12_letter_178 ml_X12_280 mc_X12_ofLetter (c_X12_ofLetter e4) rfl rfl rfl (ok_M rfl) rfl rfl rfl ?_
      replace H := wp_s H
      exact ar_iret dX12_letter_181 rfl rfl H
    replace H := wp_f c2_11 H
    refine ar_swOut 182 dX12_letter_24 (by omega) (by decide) ?_
    refine rl_a0 dX12_letter_182 ?_
    refine rl_i1 dX12_letter_183 ?_
    obtain ⟨a4, e4, H⟩ := wp_b H
    refine rc_V1i dX12_letter_184 ml_X12_375 mc_X12_scratchesOf (c_X12_scratchesOf e4) rfl rfl rfl (ok_M rfl) rfl rfl rfl ?_
    replace H := wp_s H
    exact ar_iret dX12_letter_187 rfl rfl H
  · replace H := wp_t c1 H
    refine ar_iconst (iI (0)) dX12_letter_21 rfl ?_
    replace H := wp_s H
    exact ar_iret dX12_letter_22 rfl rfl H
noncomputable def f_X12_scratch (x1 : Int32) (x2 : Int32) (h : am_H) : Option (Int32 × am_H) :=
  (f_X12_isScratch x1 h).bind (fun a1 => (f_X12_isIn x2.toInt64 (0 : Int64) (2 : Int64)).bind (fun a2 => (f_X12_goesBoth a1 a2 h).bind (fun a3 => if a3.1 = 0 then (some (((iI (0)), a3.2))) else (if x2 = (iI (2)) then ((f_X12_spoiledBy x1 a3.2).bind (fun a4 => some ((a4, a3.2)))) else ((f_X12_ofScratch x1 x2 a3.2).bind (fun a4 => some ((a4, a3.2))))))))
theorem c_X12_scratch {x1 : Int32} {x2 : Int32} {h : am_H} {a : Int32 × am_H} (e : f_X12_scratch x1 x2 h = some a) : am_Mi yX12_scratch cX12_scratch 3 (some .int) 8 173 [am_r (.inl 0) 0, am_i x1, am_i x2] h a.1 a.2 := by
  refine am_M.ofi (A := [some (am_r (.inl 0) 0), some (am_i x1), some (am_i x2)]) (by decide +kernel) rfl (ble rfl) (fun Q hQ => ?_)
  have H : wp (f_X12_scratch x1 x2 h) (fun a => Q (some (am_i a.1)) a.2) := ⟨a, e, hQ⟩
  unfold f_X12_scratch at H
  refine rl_a0 dX12_scratch_0 ?_
  refine rl_a0 dX12_scratch_1 ?_
  refine rl_i1 dX12_scratch_2 ?_
  obtain ⟨a1, e1, H⟩ := wp_b H
  refine rc_V1i dX12_scratch_3 ml_X12_378 mc_X12_isScratch (c_X12_isScratch e1) rfl rfl rfl (ok_M rfl) rfl rfl rfl ?_
  refine rl_i2 dX12_scratch_6 ?_
  refine ar_i2l dX12_scratch_7 ?_
  refine ar_lconst (0 : Int64) dX12_scratch_8 rfl ?_
  refine ar_ldc2 (2) dX12_scratch_9 kc_X12_381 ?_
  obtain ⟨a2, e2, H⟩ := wp_b H
  refine rc_S3i dX12_scratch_12 ml_X12_90 mc_X12_isIn (c_X12_isIn e2) rfl rfl rfl ?_
  obtain ⟨a3, e3, H⟩ := wp_b H
  refine rc_V2i dX12_scratch_15 ml_X12_360 mc_X12_goesBoth (c_X12_goesBoth e3) rfl rfl rfl (ok_M rfl) rfl rfl rfl ?_
  refine ar_if_ne 23 dX12_scratch_18 (by decide) (fun c1 => ?_) (fun c1 => ?_)
  · replace H := wp_f c1 H
    refine rl_i2 dX12_scratch_23 ?_
    refine ar_iconst (iI (2)) dX12_scratch_24 rfl ?_
    refine ar_ic_ne 36 dX12_scratch_25 (by decide) (fun c2 => ?_) (fun c2 => ?_)
    · replace H := wp_f c2 H
      refine rl_a0 dX12_scratch_36 ?_
      refine rl_i1 dX12_scratch_37 ?_
      refine rl_i2 dX12_scratch_38 ?_
      obtain ⟨a4, e4, H⟩ := wp_b H
      refine rc_V2i dX12_scratch_39 ml_X12_316 mc_X12_ofScratch (c_X12_ofScratch e4) rfl rfl rfl (ok_M rfl) rfl rfl rfl ?_
      replace H := wp_s H
      exact ar_iret dX12_scratch_42 rfl rfl H
    · replace H := wp_t c2 H
      refine rl_a0 dX12_scratch_28 ?_
      refine rl_i1 dX12_scratch_29 ?_
      obtain ⟨a4, e4, H⟩ := wp_b H
      refine rc_V1i dX12_scratch_30 ml_X12_319 mc_X12_spoiledBy (c_X12_spoiledBy e4) rfl rfl rfl (ok_M rfl) rfl rfl rfl ?_
      refine ar_goto 42 dX12_scratch_33 (by decide) ?_
      replace H := wp_s H
      exact ar_iret dX12_scratch_42 rfl rfl H
  · replace H := wp_t c1 H
    refine ar_iconst (iI (0)) dX12_scratch_21 rfl ?_
    replace H := wp_s H
    exact ar_iret dX12_scratch_22 rfl rfl H
noncomputable def f_X12_flourishLetter (x1 : Int32) (x2 : Int32) (h : am_H) : Option (Int32 × am_H) :=
  (f_X12_isKind x1 h).bind (fun a1 => (f_X12_goes a1 h).bind (fun a2 => if a2.1 = 0 then (some (((iI (0)), a2.2))) else (if ib x1 6 then ((f_X12_letterOf (a2.2.2.1 (.inl 0) 7 x1.toNatClampNeg) x2).bind (fun a3 => some ((a3, a2.2)))) else none)))
theorem c_X12_flourishLetter {x1 : Int32} {x2 : Int32} {h : am_H} {a : Int32 × am_H} (e : f_X12_flourishLetter x1 x2 h = some a) : am_Mi yX12_flourishLetter cX12_flourishLetter 3 (some .int) 2 48 [am_r (.inl 0) 0, am_i x1, am_i x2] h a.1 a.2 := by
  refine am_M.ofi (A := [some (am_r (.inl 0) 0), some (am_i x1), some (am_i x2)]) (by decide +kernel) rfl (ble rfl) (fun Q hQ => ?_)
  have H : wp (f_X12_flourishLetter x1 x2 h) (fun a => Q (some (am_i a.1)) a.2) := ⟨a, e, hQ⟩
  unfold f_X12_flourishLetter at H
  refine rl_a0 dX12_flourishLetter_0 ?_
  refine rl_a0 dX12_flourishLetter_1 ?_
  refine rl_i1 dX12_flourishLetter_2 ?_
  obtain ⟨a1, e1, H⟩ := wp_b H
  refine rc_V1i dX12_flourishLetter_3 ml_X12_383 mc_X12_isKind (c_X12_isKind e1) rfl rfl rfl (ok_M rfl) rfl rfl rfl ?_
  obtain ⟨a2, e2, H⟩ := wp_b H
  refine rc_V1i dX12_flourishLetter_6 ml_X12_82 mc_X12_goes (c_X12_goes e2) rfl rfl rfl (ok_M rfl) rfl rfl rfl ?_
  refine ar_if_eq 25 dX12_flourishLetter_9 (by decide) (fun c1 => ?_) (fun c1 => ?_)
  · replace H := wp_t c1 H
    refine ar_iconst (iI (0)) dX12_flourishLetter_25 rfl ?_
    replace H := wp_s H
    exact ar_iret dX12_flourishLetter_26 rfl rfl H
  · replace H := wp_f c1 H
    refine rl_a0 dX12_flourishLetter_12 ?_
    refine rg_R (.inl 0) 7 dX12_flourishLetter_13 fg_X12_35 rfl rfl rfl (ok_M rfl) ?_
    refine rl_i1 dX12_flourishLetter_16 ?_
    obtain ⟨b1, H⟩ := wp_g H
    refine ar_lald dX12_flourishLetter_17 rfl (ok_M rfl) (ib_in b1) ?_
    refine rl_i2 dX12_flourishLetter_18 ?_
    obtain ⟨a3, e3, H⟩ := wp_b H
    refine rc_S2i dX12_flourishLetter_19 ml_X12_193 mc_X12_letterOf (c_X12_letterOf e3) rfl rfl rfl ?_
    refine ar_goto 26 dX12_flourishLetter_22 (by decide) ?_
    replace H := wp_s H
    exact ar_iret dX12_flourishLetter_26 rfl rfl H
noncomputable def f_X12_isTurn (x1 : Int32) (h : am_H) : Option Int32 :=
  (f_X12_wholeTurn h).bind (fun a1 => (f_X12_isIn x1.toInt64 (0 : Int64) a1.toInt64).bind (fun a2 => if zb a2 then (some (a2)) else none))
theorem c_X12_isTurn {x1 : Int32} {h : am_H} {a : Int32} (e : f_X12_isTurn x1 h = some a) : am_Mi yX12_isTurn cX12_isTurn 2 (some .boolean) 4 86 [am_r (.inl 0) 0, am_i x1] h a h := by
  refine am_M.ofi (A := [some (am_r (.inl 0) 0), some (am_i x1)]) (by decide +kernel) rfl (ble rfl) (fun Q hQ => ?_)
  have H : wp (f_X12_isTurn x1 h) (fun a => Q (some (am_i a)) h) := ⟨a, e, hQ⟩
  unfold f_X12_isTurn at H
  refine rl_i1 dX12_isTurn_0 ?_
  refine ar_i2l dX12_isTurn_1 ?_
  refine ar_lconst (0 : Int64) dX12_isTurn_2 rfl ?_
  refine rl_a0 dX12_isTurn_3 ?_
  obtain ⟨a1, e1, H⟩ := wp_b H
  refine rc_V0i dX12_isTurn_4 ml_X12_277 mc_X12_wholeTurn (c_X12_wholeTurn e1) rfl rfl rfl (ok_M rfl) rfl rfl rfl ?_
  refine ar_i2l dX12_isTurn_7 ?_
  obtain ⟨a2, e2, H⟩ := wp_b H
  refine rc_S3i dX12_isTurn_8 ml_X12_90 mc_X12_isIn (c_X12_isIn e2) rfl rfl rfl ?_
  obtain ⟨b1, H⟩ := wp_g H
  replace H := wp_s H
  exact ar_iret dX12_isTurn_11 rfl (zb_n b1) H
noncomputable def f_X12_partsAt (x1 : Int32) (h : am_H) : Option (Int32 × am_H) :=
  (f_X12_isTurn x1 h).bind (fun a1 => (f_X12_goes a1 h).bind (fun a2 => if a2.1 = 0 then (some (((iI (0)), a2.2))) else ((f_X12_partsOf x1 a2.2).bind (fun a3 => some ((a3, a2.2))))))
theorem c_X12_partsAt {x1 : Int32} {h : am_H} {a : Int32 × am_H} (e : f_X12_partsAt x1 h = some a) : am_Mi yX12_partsAt cX12_partsAt 2 (some .int) 5 107 [am_r (.inl 0) 0, am_i x1] h a.1 a.2 := by
  refine am_M.ofi (A := [some (am_r (.inl 0) 0), some (am_i x1)]) (by decide +kernel) rfl (ble rfl) (fun Q hQ => ?_)
  have H : wp (f_X12_partsAt x1 h) (fun a => Q (some (am_i a.1)) a.2) := ⟨a, e, hQ⟩
  unfold f_X12_partsAt at H
  refine rl_a0 dX12_partsAt_0 ?_
  refine rl_a0 dX12_partsAt_1 ?_
  refine rl_i1 dX12_partsAt_2 ?_
  obtain ⟨a1, e1, H⟩ := wp_b H
  refine rc_V1i dX12_partsAt_3 ml_X12_386 mc_X12_isTurn (c_X12_isTurn e1) rfl rfl rfl (ok_M rfl) rfl rfl rfl ?_
  obtain ⟨a2, e2, H⟩ := wp_b H
  refine rc_V1i dX12_partsAt_6 ml_X12_82 mc_X12_goes (c_X12_goes e2) rfl rfl rfl (ok_M rfl) rfl rfl rfl ?_
  refine ar_if_eq 20 dX12_partsAt_9 (by decide) (fun c1 => ?_) (fun c1 => ?_)
  · replace H := wp_t c1 H
    refine ar_iconst (iI (0)) dX12_partsAt_20 rfl ?_
    replace H := wp_s H
    exact ar_iret dX12_partsAt_21 rfl rfl H
  · replace H := wp_f c1 H
    refine rl_a0 dX12_partsAt_12 ?_
    refine rl_i1 dX12_partsAt_13 ?_
    obtain ⟨a3, e3, H⟩ := wp_b H
    refine rc_V1i dX12_partsAt_14 ml_X12_286 mc_X12_partsOf (c_X12_partsOf e3) rfl rfl rfl (ok_M rfl) rfl rfl rfl ?_
    refine ar_goto 21 dX12_partsAt_17 (by decide) ?_
    replace H := wp_s H
    exact ar_iret dX12_partsAt_21 rfl rfl H
noncomputable def f_X12_heading (x1 : Int32) (h : am_H) : Option (Int32 × am_H) :=
  (f_X12_isTurn x1 h).bind (fun a1 => (f_X12_goes a1 h).bind (fun a2 => if a2.1 = 0 then (some (((iI (0)), a2.2))) else ((f_X12_headingOf x1 a2.2).bind (fun a3 => some ((a3, a2.2))))))
theorem c_X12_heading {x1 : Int32} {h : am_H} {a : Int32 × am_H} (e : f_X12_heading x1 h = some a) : am_Mi yX12_heading cX12_heading 2 (some .int) 5 107 [am_r (.inl 0) 0, am_i x1] h a.1 a.2 := by
  refine am_M.ofi (A := [some (am_r (.inl 0) 0), some (am_i x1)]) (by decide +kernel) rfl (ble rfl) (fun Q hQ => ?_)
  have H : wp (f_X12_heading x1 h) (fun a => Q (some (am_i a.1)) a.2) := ⟨a, e, hQ⟩
  unfold f_X12_heading at H
  refine rl_a0 dX12_heading_0 ?_
  refine rl_a0 dX12_heading_1 ?_
  refine rl_i1 dX12_heading_2 ?_
  obtain ⟨a1, e1, H⟩ := wp_b H
  refine rc_V1i dX12_heading_3 ml_X12_386 mc_X12_isTurn (c_X12_isTurn e1) rfl rfl rfl (ok_M rfl) rfl rfl rfl ?_
  obtain ⟨a2, e2, H⟩ := wp_b H
  refine rc_V1i dX12_heading_6 ml_X12_82 mc_X12_goes (c_X12_goes e2) rfl rfl rfl (ok_M rfl) rfl rfl rfl ?_
  refine ar_if_eq 20 dX12_heading_9 (by decide) (fun c1 => ?_) (fun c1 => ?_)
  · replace H := wp_t c1 H
    refine ar_iconst (iI (0)) dX12_heading_20 rfl ?_
    replace H := wp_s H
    exact ar_iret dX12_heading_21 rfl rfl H
  · replace H := wp_f c1 H
    refine rl_a0 dX12_heading_12 ?_
    refine rl_i1 dX12_heading_13 ?_
    obtain ⟨a3, e3, H⟩ := wp_b H
    refine rc_V1i dX12_heading_14 ml_X12_372 mc_X12_headingOf (c_X12_headingOf e3) rfl rfl rfl (ok_M rfl) rfl rfl rfl ?_
    refine ar_goto 21 dX12_heading_17 (by decide) ?_
    replace H := wp_s H
    exact ar_iret dX12_heading_21 rfl rfl H
noncomputable def s_X12_turnAt  : am_S am_H → Option (am_S am_H ⊕ (Int32 × am_H)) := fun s => match s with
  | (25, [x1, x2], [], [], h) => (f_X12_partsOf x2 h).bind (fun a1 => if a1 ≤ x1 then (some (.inr ((x2, h)))) else (some (.inl (25, [x1, (x2 + iI (-1))], [], [], h))))
  | _ => none
noncomputable def f_X12_turnAt_25  (x1 : Int32) (x2 : Int32) (h : am_H) : Option (Int32 × am_H) := lp (s_X12_turnAt) (25, [x1, x2], [], [], h)
theorem e_X12_turnAt_25  (x1 : Int32) (x2 : Int32) (h : am_H) : f_X12_turnAt_25 x1 x2 h = ((f_X12_partsOf x2 h).bind (fun a1 => if a1 ≤ x1 then (some ((x2, h))) else (f_X12_turnAt_25 x1 (x2 + iI (-1)) h))) := by
  show lp _ _ = _
  rw [lp_eq, s_X12_turnAt]
  simp only [lpk_i, lpk_b, lpk_l, lpk_n, lpk_j, lpk_r] <;> rfl
noncomputable def f_X12_turnAt (x1 : Int32) (h : am_H) : Option (Int32 × am_H) :=
  (f_X12_wholeParts h).bind (fun a1 => (f_X12_isIn x1.toInt64 (0 : Int64) a1.toInt64).bind (fun a2 => (f_X12_goes a2 h).bind (fun a3 => if a3.1 = 0 then (some (((iI (0)), a3.2))) else ((f_X12_wholeTurn a3.2).bind (fun a4 => f_X12_turnAt_25 x1 a4 a3.2)))))
theorem c_X12_turnAt_L  {Q : Option am_v → am_H → Prop} : ∀ s, wp (lp (s_X12_turnAt) s) (fun a => Q (some (am_i a.1)) a.2) → ((∀ x1 x2 h, s = (25, [x1, x2], [], [], h) → am_V RX12 cX12_turnAt 3 (some .int) 4 88 0 0 none (am_Tm cX12_turnAt (some .int) Q) 0 0 25 [some (am_r (.inl 0) 0), some (am_i x1), some (am_i x2)] [] h)) := by
  refine lp_ind _ _ (fun s H => fun x1 x2 h e => ?_)
  · subst e
    rw [s_X12_turnAt] at H
    refine rl_a0 dX12_turnAt_25 ?_
    refine rl_i2 dX12_turnAt_26 ?_
    obtain ⟨a1, e1, H⟩ := wp_b H
    refine rc_V1i dX12_turnAt_27 ml_X12_286 mc_X12_partsOf (c_X12_partsOf e1) rfl rfl rfl (ok_M rfl) rfl rfl rfl ?_
    refine rl_i1 dX12_turnAt_30 ?_
    refine ar_ic_le 40 dX12_turnAt_31 (by decide) (fun c1 => ?_) (fun c1 => ?_)
    · replace H := wp_t c1 H
      refine rl_i2 dX12_turnAt_40 ?_
      replace H := lp_re H
      exact ar_iret dX12_turnAt_41 rfl rfl H
    · replace H := wp_f c1 H
      refine rn_m_2 (v := x2 + iI (-1)) dX12_turnAt_34 rfl trivial rfl ?_
      refine ar_goto 25 dX12_turnAt_37 (by decide) ?_
      exact am_V.wk (am_s (am_s (am_s am_0))) ((lp_in H) _ _ _ rfl)
theorem c_X12_turnAt {x1 : Int32} {h : am_H} {a : Int32 × am_H} (e : f_X12_turnAt x1 h = some a) : am_Mi yX12_turnAt cX12_turnAt 3 (some .int) 4 88 [am_r (.inl 0) 0, am_i x1] h a.1 a.2 := by
  refine am_M.ofi (A := [some (am_r (.inl 0) 0), some (am_i x1), none]) (by decide +kernel) rfl (ble rfl) (fun Q hQ => ?_)
  have H : wp (f_X12_turnAt x1 h) (fun a => Q (some (am_i a.1)) a.2) := ⟨a, e, hQ⟩
  unfold f_X12_turnAt at H
  refine rl_a0 dX12_turnAt_0 ?_
  refine rl_i1 dX12_turnAt_1 ?_
  refine ar_i2l dX12_turnAt_2 ?_
  refine ar_lconst (0 : Int64) dX12_turnAt_3 rfl ?_
  refine rl_a0 dX12_turnAt_4 ?_
  obtain ⟨a1, e1, H⟩ := wp_b H
  refine rc_V0i dX12_turnAt_5 ml_X12_295 mc_X12_wholeParts (c_X12_wholeParts e1) rfl rfl rfl (ok_M rfl) rfl rfl rfl ?_
  refine ar_i2l dX12_turnAt_8 ?_
  obtain ⟨a2, e2, H⟩ := wp_b H
  refine rc_S3i dX12_turnAt_9 ml_X12_90 mc_X12_isIn (c_X12_isIn e2) rfl rfl rfl ?_
  obtain ⟨a3, e3, H⟩ := wp_b H
  refine rc_V1i dX12_turnAt_12 ml_X12_82 mc_X12_goes (c_X12_goes e3) rfl rfl rfl (ok_M rfl) rfl rfl rfl ?_
  refine ar_if_ne 20 dX12_turnAt_15 (by decide) (fun c1 => ?_) (fun c1 => ?_)
  · replace H := wp_f c1 H
    refine rl_a0 dX12_turnAt_20 ?_
    obtain ⟨a4, e4, H⟩ := wp_b H
    refine rc_V0i dX12_turnAt_21 ml_X12_277 mc_X12_wholeTurn (c_X12_wholeTurn e4) rfl rfl rfl (ok_M rfl) rfl rfl rfl ?_
    refine rs_i2 dX12_turnAt_24 rfl trivial ?_
    exact am_V.wk (am_s (am_s (am_s am_0))) ((c_X12_turnAt_L  _ H) _ _ _ rfl)
  · replace H := wp_t c1 H
    refine ar_iconst (iI (0)) dX12_turnAt_18 rfl ?_
    replace H := wp_s H
    exact ar_iret dX12_turnAt_19 rfl rfl H
noncomputable def s_X12_farthestLeft  : am_S am_H → Option (am_S am_H ⊕ (Int32 × am_H)) := fun s => match s with
  | (9, [x1, x2], [], [], h) => if ib (iI (0)) 408 then (if (h.1 (.inl 0) 2 ((iI (0))).toNatClampNeg) < x2 then (some (.inr ((x1, h)))) else ((f_X12_turnBefore x2 h).bind (fun a1 => (f_X12_bend a1 h).bind (fun a2 => (f_X12_greater x1 a2).bind (fun a3 => some (.inl (9, [a3, (x2 + 1)], [], [], h))))))) else none
  | _ => none
noncomputable def f_X12_farthestLeft_9  (x1 : Int32) (x2 : Int32) (h : am_H) : Option (Int32 × am_H) := lp (s_X12_farthestLeft) (9, [x1, x2], [], [], h)
theorem e_X12_farthestLeft_9  (x1 : Int32) (x2 : Int32) (h : am_H) : f_X12_farthestLeft_9 x1 x2 h = (if ib (iI (0)) 408 then (if (h.1 (.inl 0) 2 ((iI (0))).toNatClampNeg) < x2 then (some ((x1, h))) else ((f_X12_turnBefore x2 h).bind (fun a1 => (f_X12_bend a1 h).bind (fun a2 => (f_X12_greater x1 a2).bind (fun a3 => f_X12_farthestLeft_9 a3 (x2 + 1) h))))) else none) := by
  show lp _ _ = _
  rw [lp_eq, s_X12_farthestLeft]
  simp only [lpk_i, lpk_b, lpk_l, lpk_n, lpk_j, lpk_r] <;> rfl
noncomputable def f_X12_farthestLeft  (h : am_H) : Option (Int32 × am_H) :=
  am_lt (am_u h (.inl 0) 0 0 (iI (0))) (fun h1 => f_X12_farthestLeft_9 (iI (0)) (iI (0)) h1)
theorem c_X12_farthestLeft_L  {Q : Option am_v → am_H → Prop} : ∀ s, wp (lp (s_X12_farthestLeft) s) (fun a => Q (some (am_i a.1)) a.2) → ((∀ x1 x2 h, s = (9, [x1, x2], [], [], h) → am_V RX12 cX12_farthestLeft 3 (some .int) 3 68 0 0 none (am_Tm cX12_farthestLeft (some .int) Q) 0 0 9 [some (am_r (.inl 0) 0), some (am_i x1), some (am_i x2)] [] h)) := by
  refine lp_ind _ _ (fun s H => fun x1 x2 h e => ?_)
  · subst e
    rw [s_X12_farthestLeft] at H
    refine rl_i2 dX12_farthestLeft_9 ?_
    refine rl_a0 dX12_farthestLeft_10 ?_
    refine rg_R (.inl 0) 2 dX12_farthestLeft_11 fg_X12_20 rfl rfl rfl (ok_M rfl) ?_
    refine ar_iconst (iI (0)) dX12_farthestLeft_14 rfl ?_
    obtain ⟨b1, H⟩ := wp_g H
    refine ar_iald dX12_farthestLeft_15 rfl (ok_M rfl) (ib_in b1) ?_
    refine ar_ic_gt 39 dX12_farthestLeft_16 (by decide) (fun c1 => ?_) (fun c1 => ?_)
    · replace H := wp_t c1 H
      refine rl_i1 dX12_farthestLeft_39 ?_
      replace H := lp_re H
      exact ar_iret dX12_farthestLeft_40 rfl rfl H
    · replace H := wp_f c1 H
      refine rl_i1 dX12_farthestLeft_19 ?_
      refine rl_a0 dX12_farthestLeft_20 ?_
      refine rl_a0 dX12_farthestLeft_21 ?_
      refine rl_i2 dX12_farthestLeft_22 ?_
      obtain ⟨a1, e1, H⟩ := wp_b H
      refine rc_V1i dX12_farthestLeft_23 ml_X12_262 mc_X12_turnBefore (c_X12_turnBefore e1) rfl rfl rfl (ok_M rfl) rfl rfl rfl ?_
      obtain ⟨a2, e2, H⟩ := wp_b H
      refine rc_V1i dX12_farthestLeft_26 ml_X12_274 mc_X12_bend (c_X12_bend e2) rfl rfl rfl (ok_M rfl) rfl rfl rfl ?_
      obtain ⟨a3, e3, H⟩ := wp_b H
      refine rc_S2i dX12_farthestLeft_29 ml_X12_329 mc_X12_greater (c_X12_greater e3) rfl rfl rfl ?_
      refine rs_i1 dX12_farthestLeft_32 rfl trivial ?_
      refine rn_1_2 dX12_farthestLeft_33 rfl trivial ?_
      refine ar_goto 9 dX12_farthestLeft_36 (by decide) ?_
      exact am_V.wk (am_s (am_s (am_s am_0))) ((lp_in H) _ _ _ rfl)
theorem c_X12_farthestLeft  {h : am_H} {a : Int32 × am_H} (e : f_X12_farthestLeft h = some a) : am_Mi yX12_farthestLeft cX12_farthestLeft 3 (some .int) 3 68 [am_r (.inl 0) 0] h a.1 a.2 := by
  refine am_M.ofi (A := [some (am_r (.inl 0) 0), none, none]) (by decide +kernel) rfl (ble rfl) (fun Q hQ => ?_)
  have H : wp (f_X12_farthestLeft h) (fun a => Q (some (am_i a.1)) a.2) := ⟨a, e, hQ⟩
  unfold f_X12_farthestLeft at H
  refine rl_a0 dX12_farthestLeft_0 ?_
  refine ar_iconst (iI (0)) dX12_farthestLeft_1 rfl ?_
  refine ar_putI dX12_farthestLeft_2 fg_X12_72 rfl rfl (ok_M rfl) rfl rfl ?_
  replace H := wp_l H
  generalize am_u h (.inl 0) 0 0 (iI (0)) = h1 at H ⊢
  refine ar_iconst (iI (0)) dX12_farthestLeft_5 rfl ?_
  refine rs_i1 dX12_farthestLeft_6 rfl trivial ?_
  refine ar_iconst (iI (0)) dX12_farthestLeft_7 rfl ?_
  refine rs_i2 dX12_farthestLeft_8 rfl trivial ?_
  exact am_V.wk (am_s (am_s (am_s am_0))) ((c_X12_farthestLeft_L  _ H) _ _ _ rfl)
noncomputable def f_X12_room (x1 : Int32) (h : am_H) : Option (Int32 × am_H) :=
  (f_X12_isRoom x1 h).bind (fun a1 => (f_X12_goes a1 h).bind (fun a2 => if a2.1 = 0 then (some (((iI (0)), a2.2))) else ((f_X12_roomOf x1 a2.2).bind (fun a3 => some ((a3, a2.2))))))
theorem c_X12_room {x1 : Int32} {h : am_H} {a : Int32 × am_H} (e : f_X12_room x1 h = some a) : am_Mi yX12_room cX12_room 2 (some .int) 7 151 [am_r (.inl 0) 0, am_i x1] h a.1 a.2 := by
  refine am_M.ofi (A := [some (am_r (.inl 0) 0), some (am_i x1)]) (by decide +kernel) rfl (ble rfl) (fun Q hQ => ?_)
  have H : wp (f_X12_room x1 h) (fun a => Q (some (am_i a.1)) a.2) := ⟨a, e, hQ⟩
  unfold f_X12_room at H
  refine rl_a0 dX12_room_0 ?_
  refine rl_a0 dX12_room_1 ?_
  refine rl_i1 dX12_room_2 ?_
  obtain ⟨a1, e1, H⟩ := wp_b H
  refine rc_V1i dX12_room_3 ml_X12_389 mc_X12_isRoom (c_X12_isRoom e1) rfl rfl rfl (ok_M rfl) rfl rfl rfl ?_
  obtain ⟨a2, e2, H⟩ := wp_b H
  refine rc_V1i dX12_room_6 ml_X12_82 mc_X12_goes (c_X12_goes e2) rfl rfl rfl (ok_M rfl) rfl rfl rfl ?_
  refine ar_if_eq 20 dX12_room_9 (by decide) (fun c1 => ?_) (fun c1 => ?_)
  · replace H := wp_t c1 H
    refine ar_iconst (iI (0)) dX12_room_20 rfl ?_
    replace H := wp_s H
    exact ar_iret dX12_room_21 rfl rfl H
  · replace H := wp_f c1 H
    refine rl_a0 dX12_room_12 ?_
    refine rl_i1 dX12_room_13 ?_
    obtain ⟨a3, e3, H⟩ := wp_b H
    refine rc_V1i dX12_room_14 ml_X12_301 mc_X12_roomOf (c_X12_roomOf e3) rfl rfl rfl (ok_M rfl) rfl rfl rfl ?_
    refine ar_goto 21 dX12_room_17 (by decide) ?_
    replace H := wp_s H
    exact ar_iret dX12_room_21 rfl rfl H
noncomputable def s_X12_crowded  : am_S am_H → Option (am_S am_H ⊕ (Int32 × am_H)) := fun s => match s with
  | (9, [x1, x2], [], [], h) => if ib (iI (1)) 408 then (if (h.1 (.inl 0) 2 ((iI (1))).toNatClampNeg) < x2 then (some (.inr ((x1, h)))) else ((f_X12_isCrowded x2 h).bind (fun a1 => if a1 = 0 then (some (.inl (9, [(x1 ||| (iI (0))), (x2 + 1)], [], [], h))) else (some (.inl (9, [(x1 ||| ((iI (1)) <<< (x2 &&& 31))), (x2 + 1)], [], [], h)))))) else none
  | _ => none
noncomputable def f_X12_crowded_9  (x1 : Int32) (x2 : Int32) (h : am_H) : Option (Int32 × am_H) := lp (s_X12_crowded) (9, [x1, x2], [], [], h)
theorem e_X12_crowded_9  (x1 : Int32) (x2 : Int32) (h : am_H) : f_X12_crowded_9 x1 x2 h = (if ib (iI (1)) 408 then (if (h.1 (.inl 0) 2 ((iI (1))).toNatClampNeg) < x2 then (some ((x1, h))) else ((f_X12_isCrowded x2 h).bind (fun a1 => if a1 = 0 then (f_X12_crowded_9 (x1 ||| (iI (0))) (x2 + 1) h) else (f_X12_crowded_9 (x1 ||| ((iI (1)) <<< (x2 &&& 31))) (x2 + 1) h)))) else none) := by
  show lp _ _ = _
  rw [lp_eq, s_X12_crowded]
  simp only [lpk_i, lpk_b, lpk_l, lpk_n, lpk_j, lpk_r] <;> rfl
noncomputable def f_X12_crowded  (h : am_H) : Option (Int32 × am_H) :=
  am_lt (am_u h (.inl 0) 0 0 (iI (0))) (fun h1 => f_X12_crowded_9 (iI (0)) (iI (0)) h1)
theorem c_X12_crowded_L  {Q : Option am_v → am_H → Prop} : ∀ s, wp (lp (s_X12_crowded) s) (fun a => Q (some (am_i a.1)) a.2) → ((∀ x1 x2 h, s = (9, [x1, x2], [], [], h) → am_V RX12 cX12_crowded 3 (some .int) 8 172 0 0 none (am_Tm cX12_crowded (some .int) Q) 0 0 9 [some (am_r (.inl 0) 0), some (am_i x1), some (am_i x2)] [] h)) := by
  refine lp_ind _ _ (fun s H => fun x1 x2 h e => ?_)
  · subst e
    rw [s_X12_crowded] at H
    refine rl_i2 dX12_crowded_9 ?_
    refine rl_a0 dX12_crowded_10 ?_
    refine rg_R (.inl 0) 2 dX12_crowded_11 fg_X12_20 rfl rfl rfl (ok_M rfl) ?_
    refine ar_iconst (iI (1)) dX12_crowded_14 rfl ?_
    obtain ⟨b1, H⟩ := wp_g H
    refine ar_iald dX12_crowded_15 rfl (ok_M rfl) (ib_in b1) ?_
    refine ar_ic_gt 43 dX12_crowded_16 (by decide) (fun c1 => ?_) (fun c1 => ?_)
    · replace H := wp_t c1 H
      refine rl_i1 dX12_crowded_43 ?_
      replace H := lp_re H
      exact ar_iret dX12_crowded_44 rfl rfl H
    · replace H := wp_f c1 H
      refine rl_i1 dX12_crowded_19 ?_
      refine rl_a0 dX12_crowded_20 ?_
      refine rl_i2 dX12_crowded_21 ?_
      obtain ⟨a1, e1, H⟩ := wp_b H
      refine rc_V1i dX12_crowded_22 ml_X12_304 mc_X12_isCrowded (c_X12_isCrowded e1) rfl rfl rfl (ok_M rfl) rfl rfl rfl ?_
      refine ar_if_eq 34 dX12_crowded_25 (by decide) (fun c2 => ?_) (fun c2 => ?_)
      · replace H := wp_t c2 H
        refine ar_iconst (iI (0)) dX12_crowded_34 rfl ?_
        refine ar_ior dX12_crowded_35 ?_
        refine rs_i1 dX12_crowded_36 rfl trivial ?_
        refine rn_1_2 dX12_crowded_37 rfl trivial ?_
        refine ar_goto 9 dX12_crowded_40 (by decide) ?_
        exact am_V.wk (am_s (am_s (am_s am_0))) ((lp_in H) _ _ _ rfl)
      · replace H := wp_f c2 H
        refine ar_iconst (iI (1)) dX12_crowded_28 rfl ?_
        refine rl_i2 dX12_crowded_29 ?_
        refine ar_ishl dX12_crowded_30 ?_
        refine ar_goto 35 dX12_crowded_31 (by decide) ?_
        refine ar_ior dX12_crowded_35 ?_
        refine rs_i1 dX12_crowded_36 rfl trivial ?_
        refine rn_1_2 dX12_crowded_37 rfl trivial ?_
        refine ar_goto 9 dX12_crowded_40 (by decide) ?_
        exact am_V.wk (am_s (am_s (am_s am_0))) ((lp_in H) _ _ _ rfl)
theorem c_X12_crowded  {h : am_H} {a : Int32 × am_H} (e : f_X12_crowded h = some a) : am_Mi yX12_crowded cX12_crowded 3 (some .int) 8 172 [am_r (.inl 0) 0] h a.1 a.2 := by
  refine am_M.ofi (A := [some (am_r (.inl 0) 0), none, none]) (by decide +kernel) rfl (ble rfl) (fun Q hQ => ?_)
  have H : wp (f_X12_crowded h) (fun a => Q (some (am_i a.1)) a.2) := ⟨a, e, hQ⟩
  unfold f_X12_crowded at H
  refine rl_a0 dX12_crowded_0 ?_
  refine ar_iconst (iI (0)) dX12_crowded_1 rfl ?_
  refine ar_putI dX12_crowded_2 fg_X12_72 rfl rfl (ok_M rfl) rfl rfl ?_
  replace H := wp_l H
  generalize am_u h (.inl 0) 0 0 (iI (0)) = h1 at H ⊢
  refine ar_iconst (iI (0)) dX12_crowded_5 rfl ?_
  refine rs_i1 dX12_crowded_6 rfl trivial ?_
  refine ar_iconst (iI (0)) dX12_crowded_7 rfl ?_
  refine rs_i2 dX12_crowded_8 rfl trivial ?_
  exact am_V.wk (am_s (am_s (am_s am_0))) ((c_X12_crowded_L  _ H) _ _ _ rfl)
noncomputable def f_X12_tightest  (h : am_H) : Option (Int32 × am_H) :=
  am_lt (am_u h (.inl 0) 0 0 (iI (0))) (fun h1 => (f_X12_tightestNow h1).bind (fun a1 => some ((a1, h1))))
theorem c_X12_tightest  {h : am_H} {a : Int32 × am_H} (e : f_X12_tightest h = some a) : am_Mi yX12_tightest cX12_tightest 1 (some .int) 8 173 [am_r (.inl 0) 0] h a.1 a.2 := by
  refine am_M.ofi (A := [some (am_r (.inl 0) 0)]) (by decide +kernel) rfl (ble rfl) (fun Q hQ => ?_)
  have H : wp (f_X12_tightest h) (fun a => Q (some (am_i a.1)) a.2) := ⟨a, e, hQ⟩
  unfold f_X12_tightest at H
  refine rl_a0 dX12_tightest_0 ?_
  refine ar_iconst (iI (0)) dX12_tightest_1 rfl ?_
  refine ar_putI dX12_tightest_2 fg_X12_72 rfl rfl (ok_M rfl) rfl rfl ?_
  replace H := wp_l H
  generalize am_u h (.inl 0) 0 0 (iI (0)) = h1 at H ⊢
  refine rl_a0 dX12_tightest_5 ?_
  obtain ⟨a1, e1, H⟩ := wp_b H
  refine rc_V0i dX12_tightest_6 ml_X12_392 mc_X12_tightestNow (c_X12_tightestNow e1) rfl rfl rfl (ok_M rfl) rfl rfl rfl ?_
  replace H := wp_s H
  exact ar_iret dX12_tightest_9 rfl rfl H
noncomputable def f_X12_flourishIn (x1 : Int32) (h : am_H) : Option (Int32 × am_H) :=
  (f_X12_isRoom x1 h).bind (fun a1 => (f_X12_goes a1 h).bind (fun a2 => if a2.1 = 0 then (some (((iI (0)), a2.2))) else ((f_X12_laysFlourishes a2.2).bind (fun a3 => if ib x1 21 then (some (((a3.1 (.inl 0) 10 x1.toNatClampNeg), a3))) else none))))
theorem c_X12_flourishIn {x1 : Int32} {h : am_H} {a : Int32 × am_H} (e : f_X12_flourishIn x1 h = some a) : am_Mi yX12_flourishIn cX12_flourishIn 2 (some .int) 8 175 [am_r (.inl 0) 0, am_i x1] h a.1 a.2 := by
  refine am_M.ofi (A := [some (am_r (.inl 0) 0), some (am_i x1)]) (by decide +kernel) rfl (ble rfl) (fun Q hQ => ?_)
  have H : wp (f_X12_flourishIn x1 h) (fun a => Q (some (am_i a.1)) a.2) := ⟨a, e, hQ⟩
  unfold f_X12_flourishIn at H
  refine rl_a0 dX12_flourishIn_0 ?_
  refine rl_a0 dX12_flourishIn_1 ?_
  refine rl_i1 dX12_flourishIn_2 ?_
  obtain ⟨a1, e1, H⟩ := wp_b H
  refine rc_V1i dX12_flourishIn_3 ml_X12_389 mc_X12_isRoom (c_X12_isRoom e1) rfl rfl rfl (ok_M rfl) rfl rfl rfl ?_
  obtain ⟨a2, e2, H⟩ := wp_b H
  refine rc_V1i dX12_flourishIn_6 ml_X12_82 mc_X12_goes (c_X12_goes e2) rfl rfl rfl (ok_M rfl) rfl rfl rfl ?_
  refine ar_if_ne 14 dX12_flourishIn_9 (by decide) (fun c1 => ?_) (fun c1 => ?_)
  · replace H := wp_f c1 H
    refine rl_a0 dX12_flourishIn_14 ?_
    obtain ⟨a3, e3, H⟩ := wp_b H
    refine rc_V0v dX12_flourishIn_15 ml_X12_395 mc_X12_laysFlourishes (c_X12_laysFlourishes e3) rfl rfl rfl (ok_M rfl) rfl rfl rfl ?_
    refine rl_a0 dX12_flourishIn_18 ?_
    refine rg_R (.inl 0) 10 dX12_flourishIn_19 fg_X12_45 rfl rfl rfl (ok_M rfl) ?_
    refine rl_i1 dX12_flourishIn_22 ?_
    obtain ⟨b1, H⟩ := wp_g H
    refine ar_iald dX12_flourishIn_23 rfl (ok_M rfl) (ib_in b1) ?_
    replace H := wp_s H
    exact ar_iret dX12_flourishIn_24 rfl rfl H
  · replace H := wp_t c1 H
    refine ar_iconst (iI (0)) dX12_flourishIn_12 rfl ?_
    replace H := wp_s H
    exact ar_iret dX12_flourishIn_13 rfl rfl H
noncomputable def f_X12_stockLeft (x1 : Int32) (h : am_H) : Option (Int32 × am_H) :=
  (f_X12_isKind x1 h).bind (fun a1 => (f_X12_goes a1 h).bind (fun a2 => if a2.1 = 0 then (some (((iI (0)), a2.2))) else ((f_X12_laysFlourishes a2.2).bind (fun a3 => if ib x1 6 then (some (((a3.1 (.inl 0) 11 x1.toNatClampNeg), a3))) else none))))
theorem c_X12_stockLeft {x1 : Int32} {h : am_H} {a : Int32 × am_H} (e : f_X12_stockLeft x1 h = some a) : am_Mi yX12_stockLeft cX12_stockLeft 2 (some .int) 8 175 [am_r (.inl 0) 0, am_i x1] h a.1 a.2 := by
  refine am_M.ofi (A := [some (am_r (.inl 0) 0), some (am_i x1)]) (by decide +kernel) rfl (ble rfl) (fun Q hQ => ?_)
  have H : wp (f_X12_stockLeft x1 h) (fun a => Q (some (am_i a.1)) a.2) := ⟨a, e, hQ⟩
  unfold f_X12_stockLeft at H
  refine rl_a0 dX12_stockLeft_0 ?_
  refine rl_a0 dX12_stockLeft_1 ?_
  refine rl_i1 dX12_stockLeft_2 ?_
  obtain ⟨a1, e1, H⟩ := wp_b H
  refine rc_V1i dX12_stockLeft_3 ml_X12_383 mc_X12_isKind (c_X12_isKind e1) rfl rfl rfl (ok_M rfl) rfl rfl rfl ?_
  obtain ⟨a2, e2, H⟩ := wp_b H
  refine rc_V1i dX12_stockLeft_6 ml_X12_82 mc_X12_goes (c_X12_goes e2) rfl rfl rfl (ok_M rfl) rfl rfl rfl ?_
  refine ar_if_ne 14 dX12_stockLeft_9 (by decide) (fun c1 => ?_) (fun c1 => ?_)
  · replace H := wp_f c1 H
    refine rl_a0 dX12_stockLeft_14 ?_
    obtain ⟨a3, e3, H⟩ := wp_b H
    refine rc_V0v dX12_stockLeft_15 ml_X12_395 mc_X12_laysFlourishes (c_X12_laysFlourishes e3) rfl rfl rfl (ok_M rfl) rfl rfl rfl ?_
    refine rl_a0 dX12_stockLeft_18 ?_
    refine rg_R (.inl 0) 11 dX12_stockLeft_19 fg_X12_48 rfl rfl rfl (ok_M rfl) ?_
    refine rl_i1 dX12_stockLeft_22 ?_
    obtain ⟨b1, H⟩ := wp_g H
    refine ar_iald dX12_stockLeft_23 rfl (ok_M rfl) (ib_in b1) ?_
    replace H := wp_s H
    exact ar_iret dX12_stockLeft_24 rfl rfl H
  · replace H := wp_t c1 H
    refine ar_iconst (iI (0)) dX12_stockLeft_12 rfl ?_
    replace H := wp_s H
    exact ar_iret dX12_stockLeft_13 rfl rfl H
noncomputable def s_X12_worth  : am_S am_H → Option (am_S am_H ⊕ (Int32 × am_H)) := fun s => match s with
  | (13, [x1, x2], [], [], h) => if ib (iI (1)) 408 then (if (h.1 (.inl 0) 2 ((iI (1))).toNatClampNeg) < x2 then (some (.inr ((x1, h)))) else (if ib x2 21 then (if (h.1 (.inl 0) 10 x2.toNatClampNeg) = (iI (-1)) then (some (.inl (13, [(x1 + (iI (0))), (x2 + 1)], [], [], h))) else (if ib x2 21 then ((f_X12_ofKind (h.1 (.inl 0) 10 x2.toNatClampNeg) (iI (1)) h).bind (fun a1 => some (.inl (13, [(x1 + a1), (x2 + 1)], [], [], h)))) else none)) else none)) else none
  | _ => none
noncomputable def f_X12_worth_13  (x1 : Int32) (x2 : Int32) (h : am_H) : Option (Int32 × am_H) := lp (s_X12_worth) (13, [x1, x2], [], [], h)
theorem e_X12_worth_13  (x1 : Int32) (x2 : Int32) (h : am_H) : f_X12_worth_13 x1 x2 h = (if ib (iI (1)) 408 then (if (h.1 (.inl 0) 2 ((iI (1))).toNatClampNeg) < x2 then (some ((x1, h))) else (if ib x2 21 then (if (h.1 (.inl 0) 10 x2.toNatClampNeg) = (iI (-1)) then (f_X12_worth_13 (x1 + (iI (0))) (x2 + 1) h) else (if ib x2 21 then ((f_X12_ofKind (h.1 (.inl 0) 10 x2.toNatClampNeg) (iI (1)) h).bind (fun a1 => f_X12_worth_13 (x1 + a1) (x2 + 1) h)) else none)) else none)) else none) := by
  show lp _ _ = _
  rw [lp_eq, s_X12_worth]
  simp only [lpk_i, lpk_b, lpk_l, lpk_n, lpk_j, lpk_r] <;> rfl
noncomputable def f_X12_worth  (h : am_H) : Option (Int32 × am_H) :=
  am_lt (am_u h (.inl 0) 0 0 (iI (0))) (fun h1 => (f_X12_laysFlourishes h1).bind (fun a1 => f_X12_worth_13 (iI (0)) (iI (0)) a1))
theorem c_X12_worth_L  {Q : Option am_v → am_H → Prop} : ∀ s, wp (lp (s_X12_worth) s) (fun a => Q (some (am_i a.1)) a.2) → ((∀ x1 x2 h, s = (13, [x1, x2], [], [], h) → am_V RX12 cX12_worth 3 (some .int) 8 175 0 0 none (am_Tm cX12_worth (some .int) Q) 0 0 13 [some (am_r (.inl 0) 0), some (am_i x1), some (am_i x2)] [] h)) := by
  refine lp_ind _ _ (fun s H => fun x1 x2 h e => ?_)
  · subst e
    rw [s_X12_worth] at H
    refine rl_i2 dX12_worth_13 ?_
    refine rl_a0 dX12_worth_14 ?_
    refine rg_R (.inl 0) 2 dX12_worth_15 fg_X12_20 rfl rfl rfl (ok_M rfl) ?_
    refine ar_iconst (iI (1)) dX12_worth_18 rfl ?_
    obtain ⟨b1, H⟩ := wp_g H
    refine ar_iald dX12_worth_19 rfl (ok_M rfl) (ib_in b1) ?_
    refine ar_ic_gt 57 dX12_worth_20 (by decide) (fun c1 => ?_) (fun c1 => ?_)
    · replace H := wp_t c1 H
      refine rl_i1 dX12_worth_57 ?_
      replace H := lp_re H
      exact ar_iret dX12_worth_58 rfl rfl H
    · replace H := wp_f c1 H
      refine rl_i1 dX12_worth_23 ?_
      refine rl_a0 dX12_worth_24 ?_
      refine rg_R (.inl 0) 10 dX12_worth_25 fg_X12_45 rfl rfl rfl (ok_M rfl) ?_
      refine rl_i2 dX12_worth_28 ?_
      obtain ⟨b2, H⟩ := wp_g H
      refine ar_iald dX12_worth_29 rfl (ok_M rfl) (ib_in b2) ?_
      refine ar_iconst (iI (-1)) dX12_worth_30 rfl ?_
      refine ar_ic_ne 38 dX12_worth_31 (by decide) (fun c2 => ?_) (fun c2 => ?_)
      · replace H := wp_f c2 H
        refine rl_a0 dX12_worth_38 ?_
        refine rl_a0 dX12_worth_39 ?_
        refine rg_R (.inl 0) 10 dX12_worth_40 fg_X12_45 rfl rfl rfl (ok_M rfl) ?_
        refine rl_i2 dX12_worth_43 ?_
        obtain ⟨b3, H⟩ := wp_g H
        refine ar_iald dX12_worth_44 rfl (ok_M rfl) (ib_in b3) ?_
        refine ar_iconst (iI (1)) dX12_worth_45 rfl ?_
        obtain ⟨a1, e1, H⟩ := wp_b H
        refine rc_V2i dX12_worth_46 ml_X12_307 mc_X12_ofKind (c_X12_ofKind e1) rfl rfl rfl (ok_M rfl) rfl rfl rfl ?_
        refine ar_iadd dX12_worth_49 ?_
        refine rs_i1 dX12_worth_50 rfl trivial ?_
        refine rn_1_2 dX12_worth_51 rfl trivial ?_
        refine ar_goto 13 dX12_worth_54 (by decide) ?_
        exact am_V.wk (am_s (am_s (am_s am_0))) ((lp_in H) _ _ _ rfl)
      · replace H := wp_t c2 H
        refine ar_iconst (iI (0)) dX12_worth_34 rfl ?_
        refine ar_goto 49 dX12_worth_35 (by decide) ?_
        refine ar_iadd dX12_worth_49 ?_
        refine rs_i1 dX12_worth_50 rfl trivial ?_
        refine rn_1_2 dX12_worth_51 rfl trivial ?_
        refine ar_goto 13 dX12_worth_54 (by decide) ?_
        exact am_V.wk (am_s (am_s (am_s am_0))) ((lp_in H) _ _ _ rfl)
theorem c_X12_worth  {h : am_H} {a : Int32 × am_H} (e : f_X12_worth h = some a) : am_Mi yX12_worth cX12_worth 3 (some .int) 8 175 [am_r (.inl 0) 0] h a.1 a.2 := by
  refine am_M.ofi (A := [some (am_r (.inl 0) 0), none, none]) (by decide +kernel) rfl (ble rfl) (fun Q hQ => ?_)
  have H : wp (f_X12_worth h) (fun a => Q (some (am_i a.1)) a.2) := ⟨a, e, hQ⟩
  unfold f_X12_worth at H
  refine rl_a0 dX12_worth_0 ?_
  refine ar_iconst (iI (0)) dX12_worth_1 rfl ?_
  refine ar_putI dX12_worth_2 fg_X12_72 rfl rfl (ok_M rfl) rfl rfl ?_
  replace H := wp_l H
  generalize am_u h (.inl 0) 0 0 (iI (0)) = h1 at H ⊢
  refine rl_a0 dX12_worth_5 ?_
  obtain ⟨a1, e1, H⟩ := wp_b H
  refine rc_V0v dX12_worth_6 ml_X12_395 mc_X12_laysFlourishes (c_X12_laysFlourishes e1) rfl rfl rfl (ok_M rfl) rfl rfl rfl ?_
  refine ar_iconst (iI (0)) dX12_worth_9 rfl ?_
  refine rs_i1 dX12_worth_10 rfl trivial ?_
  refine ar_iconst (iI (0)) dX12_worth_11 rfl ?_
  refine rs_i2 dX12_worth_12 rfl trivial ?_
  exact am_V.wk (am_s (am_s (am_s am_0))) ((c_X12_worth_L  _ H) _ _ _ rfl)
noncomputable def s_X12_meanRoom  : am_S am_H → Option (am_S am_H ⊕ (UInt64 × am_H)) := fun s => match s with
  | (9, [x1, x2], [], [], h) => if ib (iI (1)) 408 then (if (h.1 (.inl 0) 2 ((iI (1))).toNatClampNeg) < x2 then (if ib (iI (1)) 408 then (if nf64 (FP.ddiv (FP.i2d x1) (FP.i2d ((h.1 (.inl 0) 2 ((iI (1))).toNatClampNeg) + (iI (1))))) then (some (.inr (((FP.ddiv (FP.i2d x1) (FP.i2d ((h.1 (.inl 0) 2 ((iI (1))).toNatClampNeg) + (iI (1))))), h)))) else none) else none) else ((f_X12_roomOf x2 h).bind (fun a1 => some (.inl (9, [(x1 + a1), (x2 + 1)], [], [], h))))) else none
  | _ => none
noncomputable def f_X12_meanRoom_9  (x1 : Int32) (x2 : Int32) (h : am_H) : Option (UInt64 × am_H) := lp (s_X12_meanRoom) (9, [x1, x2], [], [], h)
theorem e_X12_meanRoom_9  (x1 : Int32) (x2 : Int32) (h : am_H) : f_X12_meanRoom_9 x1 x2 h = (if ib (iI (1)) 408 then (if (h.1 (.inl 0) 2 ((iI (1))).toNatClampNeg) < x2 then (if ib (iI (1)) 408 then (if nf64 (FP.ddiv (FP.i2d x1) (FP.i2d ((h.1 (.inl 0) 2 ((iI (1))).toNatClampNeg) + (iI (1))))) then (some (((FP.ddiv (FP.i2d x1) (FP.i2d ((h.1 (.inl 0) 2 ((iI (1))).toNatClampNeg) + (iI (1))))), h))) else none) else none) else ((f_X12_roomOf x2 h).bind (fun a1 => f_X12_meanRoom_9 (x1 + a1) (x2 + 1) h))) else none) := by
  show lp _ _ = _
  rw [lp_eq, s_X12_meanRoom]
  simp only [lpk_i, lpk_b, lpk_l, lpk_n, lpk_j, lpk_r] <;> rfl
noncomputable def f_X12_meanRoom  (h : am_H) : Option (UInt64 × am_H) :=
  am_lt (am_u h (.inl 0) 0 0 (iI (0))) (fun h1 => f_X12_meanRoom_9 (iI (0)) (iI (0)) h1)
theorem c_X12_meanRoom_L  {Q : Option am_v → am_H → Prop} : ∀ s, wp (lp (s_X12_meanRoom) s) (fun a => Q (some (am_dv a.1)) a.2) → ((∀ x1 x2 h, s = (9, [x1, x2], [], [], h) → am_V RX12 cX12_meanRoom 3 (some .double) 7 151 0 0 none (am_Tm cX12_meanRoom (some .double) Q) 0 0 9 [some (am_r (.inl 0) 0), some (am_i x1), some (am_i x2)] [] h)) := by
  refine lp_ind _ _ (fun s H => fun x1 x2 h e => ?_)
  · subst e
    rw [s_X12_meanRoom] at H
    refine rl_i2 dX12_meanRoom_9 ?_
    refine rl_a0 dX12_meanRoom_10 ?_
    refine rg_R (.inl 0) 2 dX12_meanRoom_11 fg_X12_20 rfl rfl rfl (ok_M rfl) ?_
    refine ar_iconst (iI (1)) dX12_meanRoom_14 rfl ?_
    obtain ⟨b1, H⟩ := wp_g H
    refine ar_iald dX12_meanRoom_15 rfl (ok_M rfl) (ib_in b1) ?_
    refine ar_ic_gt 33 dX12_meanRoom_16 (by decide) (fun c1 => ?_) (fun c1 => ?_)
    · replace H := wp_t c1 H
      refine rl_i1 dX12_meanRoom_33 ?_
      refine ar_i2d dX12_meanRoom_34 ?_
      refine rl_a0 dX12_meanRoom_35 ?_
      refine rg_R (.inl 0) 2 dX12_meanRoom_36 fg_X12_20 rfl rfl rfl (ok_M rfl) ?_
      refine ar_iconst (iI (1)) dX12_meanRoom_39 rfl ?_
      obtain ⟨b2, H⟩ := wp_g H
      refine ar_iald dX12_meanRoom_40 rfl (ok_M rfl) (ib_in b2) ?_
      refine ar_iconst (iI (1)) dX12_meanRoom_41 rfl ?_
      refine ar_iadd dX12_meanRoom_42 ?_
      refine ar_i2d dX12_meanRoom_43 ?_
      obtain ⟨b3, H⟩ := wp_g H
      refine ar_ddiv dX12_meanRoom_44 b3 ?_
      replace H := lp_re H
      exact ar_dret dX12_meanRoom_45 rfl H
    · replace H := wp_f c1 H
      refine rl_i1 dX12_meanRoom_19 ?_
      refine rl_a0 dX12_meanRoom_20 ?_
      refine rl_i2 dX12_meanRoom_21 ?_
      obtain ⟨a1, e1, H⟩ := wp_b H
      refine rc_V1i dX12_meanRoom_22 ml_X12_301 mc_X12_roomOf (c_X12_roomOf e1) rfl rfl rfl (ok_M rfl) rfl rfl rfl ?_
      refine ar_iadd dX12_meanRoom_25 ?_
      refine rs_i1 dX12_meanRoom_26 rfl trivial ?_
      refine rn_1_2 dX12_meanRoom_27 rfl trivial ?_
      refine ar_goto 9 dX12_meanRoom_30 (by decide) ?_
      exact am_V.wk (am_s (am_s (am_s am_0))) ((lp_in H) _ _ _ rfl)
theorem c_X12_meanRoom  {h : am_H} {a : UInt64 × am_H} (e : f_X12_meanRoom h = some a) : am_M yX12_meanRoom cX12_meanRoom 3 (some .double) 7 151 0 0 [am_r (.inl 0) 0] h (fun r hr => r = some (am_dv a.1) ∧ hr = a.2) := by
  refine am_M.ofg (A := [some (am_r (.inl 0) 0), none, none]) (by decide +kernel) rfl (ble rfl) (fun Q hQ => ?_)
  have H : wp (f_X12_meanRoom h) (fun a => Q (some (am_dv a.1)) a.2) := ⟨a, e, (hQ _ _ ⟨rfl, rfl⟩)⟩
  unfold f_X12_meanRoom at H
  refine rl_a0 dX12_meanRoom_0 ?_
  refine ar_iconst (iI (0)) dX12_meanRoom_1 rfl ?_
  refine ar_putI dX12_meanRoom_2 fg_X12_72 rfl rfl (ok_M rfl) rfl rfl ?_
  replace H := wp_l H
  generalize am_u h (.inl 0) 0 0 (iI (0)) = h1 at H ⊢
  refine ar_iconst (iI (0)) dX12_meanRoom_5 rfl ?_
  refine rs_i1 dX12_meanRoom_6 rfl trivial ?_
  refine ar_iconst (iI (0)) dX12_meanRoom_7 rfl ?_
  refine rs_i2 dX12_meanRoom_8 rfl trivial ?_
  exact am_V.wk (am_s (am_s (am_s am_0))) ((c_X12_meanRoom_L  _ H) _ _ _ rfl)
noncomputable def s_X12_filled  : am_S am_H → Option (am_S am_H ⊕ (UInt32 × am_H)) := fun s => match s with
  | (9, [x1, x2], [], [], h) => if ib (iI (1)) 408 then (if (h.1 (.inl 0) 2 ((iI (1))).toNatClampNeg) ≤ x2 then (if ib (iI (0)) 408 then (if (h.1 (.inl 0) 2 ((iI (0))).toNatClampNeg) = 0 then (some (.inr ((FP.fconst0, h)))) else ((f_X12_wholeParts h).bind (fun a1 => if nf32 (FP.fdiv (FP.i2f x1) (FP.i2f a1)) then (some (.inr (((FP.fdiv (FP.i2f x1) (FP.i2f a1)), h)))) else none))) else none) else ((f_X12_widthOf x2 h).bind (fun a1 => some (.inl (9, [(x1 + ((iI (1000)) * a1)), (x2 + 1)], [], [], h))))) else none
  | _ => none
noncomputable def f_X12_filled_9  (x1 : Int32) (x2 : Int32) (h : am_H) : Option (UInt32 × am_H) := lp (s_X12_filled) (9, [x1, x2], [], [], h)
theorem e_X12_filled_9  (x1 : Int32) (x2 : Int32) (h : am_H) : f_X12_filled_9 x1 x2 h = (if ib (iI (1)) 408 then (if (h.1 (.inl 0) 2 ((iI (1))).toNatClampNeg) ≤ x2 then (if ib (iI (0)) 408 then (if (h.1 (.inl 0) 2 ((iI (0))).toNatClampNeg) = 0 then (some ((FP.fconst0, h))) else ((f_X12_wholeParts h).bind (fun a1 => if nf32 (FP.fdiv (FP.i2f x1) (FP.i2f a1)) then (some (((FP.fdiv (FP.i2f x1) (FP.i2f a1)), h))) else none))) else none) else ((f_X12_widthOf x2 h).bind (fun a1 => f_X12_filled_9 (x1 + ((iI (1000)) * a1)) (x2 + 1) h))) else none) := by
  show lp _ _ = _
  rw [lp_eq, s_X12_filled]
  simp only [lpk_i, lpk_b, lpk_l, lpk_n, lpk_j, lpk_r] <;> rfl
noncomputable def f_X12_filled  (h : am_H) : Option (UInt32 × am_H) :=
  am_lt (am_u h (.inl 0) 0 0 (iI (0))) (fun h1 => f_X12_filled_9 (iI (0)) (iI (0)) h1)
theorem c_X12_filled_L  {Q : Option am_v → am_H → Prop} : ∀ s, wp (lp (s_X12_filled) s) (fun a => Q (some (am_fv9 a.1)) a.2) → ((∀ x1 x2 h, s = (9, [x1, x2], [], [], h) → am_V RX12 cX12_filled 3 (some .float) 4 86 0 0 none (am_Tm cX12_filled (some .float) Q) 0 0 9 [some (am_r (.inl 0) 0), some (am_i x1), some (am_i x2)] [] h)) := by
  refine lp_ind _ _ (fun s H => fun x1 x2 h e => ?_)
  · subst e
    rw [s_X12_filled] at H
    refine rl_i2 dX12_filled_9 ?_
    refine rl_a0 dX12_filled_10 ?_
    refine rg_R (.inl 0) 2 dX12_filled_11 fg_X12_20 rfl rfl rfl (ok_M rfl) ?_
    refine ar_iconst (iI (1)) dX12_filled_14 rfl ?_
    obtain ⟨b1, H⟩ := wp_g H
    refine ar_iald dX12_filled_15 rfl (ok_M rfl) (ib_in b1) ?_
    refine ar_ic_ge 37 dX12_filled_16 (by decide) (fun c1 => ?_) (fun c1 => ?_)
    · replace H := wp_t c1 H
      refine rl_a0 dX12_filled_37 ?_
      refine rg_R (.inl 0) 2 dX12_filled_38 fg_X12_20 rfl rfl rfl (ok_M rfl) ?_
      refine ar_iconst (iI (0)) dX12_filled_41 rfl ?_
      obtain ⟨b2, H⟩ := wp_g H
      refine ar_iald dX12_filled_42 rfl (ok_M rfl) (ib_in b2) ?_
      refine ar_if_ne 50 dX12_filled_43 (by decide) (fun c2 => ?_) (fun c2 => ?_)
      · replace H := wp_f c2 H
        refine rl_i1 dX12_filled_50 ?_
        refine ar_i2f dX12_filled_51 ?_
        refine rl_a0 dX12_filled_52 ?_
        obtain ⟨a1, e1, H⟩ := wp_b H
        refine rc_V0i dX12_filled_53 ml_X12_295 mc_X12_wholeParts (c_X12_wholeParts e1) rfl rfl rfl (ok_M rfl) rfl rfl rfl ?_
        refine ar_i2f dX12_filled_56 ?_
        obtain ⟨b3, H⟩ := wp_g H
        refine ar_fdiv dX12_filled_57 b3 ?_
        replace H := lp_re H
        exact ar_fret dX12_filled_58 rfl H
      · replace H := wp_t c2 H
        refine ar_fconst0 dX12_filled_46 ?_
        refine ar_goto 58 dX12_filled_47 (by decide) ?_
        replace H := lp_re H
        exact ar_fret dX12_filled_58 rfl H
    · replace H := wp_f c1 H
      refine rl_i1 dX12_filled_19 ?_
      refine ar_sipush (iI (1000)) dX12_filled_20 rfl ?_
      refine rl_a0 dX12_filled_23 ?_
      refine rl_i2 dX12_filled_24 ?_
      obtain ⟨a1, e1, H⟩ := wp_b H
      refine rc_V1i dX12_filled_25 ml_X12_289 mc_X12_widthOf (c_X12_widthOf e1) rfl rfl rfl (ok_M rfl) rfl rfl rfl ?_
      refine ar_imul dX12_filled_28 ?_
      refine ar_iadd dX12_filled_29 ?_
      refine rs_i1 dX12_filled_30 rfl trivial ?_
      refine rn_1_2 dX12_filled_31 rfl trivial ?_
      refine ar_goto 9 dX12_filled_34 (by decide) ?_
      exact am_V.wk (am_s (am_s (am_s am_0))) ((lp_in H) _ _ _ rfl)
theorem c_X12_filled  {h : am_H} {a : UInt32 × am_H} (e : f_X12_filled h = some a) : am_M yX12_filled cX12_filled 3 (some .float) 4 86 0 0 [am_r (.inl 0) 0] h (fun r hr => r = some (am_fv9 a.1) ∧ hr = a.2) := by
  refine am_M.ofg (A := [some (am_r (.inl 0) 0), none, none]) (by decide +kernel) rfl (ble rfl) (fun Q hQ => ?_)
  have H : wp (f_X12_filled h) (fun a => Q (some (am_fv9 a.1)) a.2) := ⟨a, e, (hQ _ _ ⟨rfl, rfl⟩)⟩
  unfold f_X12_filled at H
  refine rl_a0 dX12_filled_0 ?_
  refine ar_iconst (iI (0)) dX12_filled_1 rfl ?_
  refine ar_putI dX12_filled_2 fg_X12_72 rfl rfl (ok_M rfl) rfl rfl ?_
  replace H := wp_l H
  generalize am_u h (.inl 0) 0 0 (iI (0)) = h1 at H ⊢
  refine ar_iconst (iI (0)) dX12_filled_5 rfl ?_
  refine rs_i1 dX12_filled_6 rfl trivial ?_
  refine ar_iconst (iI (0)) dX12_filled_7 rfl ?_
  refine rs_i2 dX12_filled_8 rfl trivial ?_
  exact am_V.wk (am_s (am_s (am_s am_0))) ((c_X12_filled_L  _ H) _ _ _ rfl)
noncomputable def f_X12_leaves  (h : am_H) : Option am_H :=
  (f_X12_copiesRow 2 408 (iI (0)) 5 408 (iI (0)) h).bind (fun a1 => some (a1))
theorem c_X12_leaves  {h : am_H} {a : am_H} (e : f_X12_leaves h = some a) : am_Mv yX12_leaves cX12_leaves 1 (none) 1 24 [am_r (.inl 0) 0] h a := by
  refine am_M.ofv (A := [some (am_r (.inl 0) 0)]) (by decide +kernel) rfl (ble rfl) (fun Q hQ => ?_)
  have H : wp (f_X12_leaves h) (fun a => Q none a) := ⟨a, e, hQ⟩
  unfold f_X12_leaves at H
  refine rl_a0 dX12_leaves_0 ?_
  refine rg_R (.inl 0) 2 dX12_leaves_1 fg_X12_20 rfl rfl rfl (ok_M rfl) ?_
  refine ar_iconst (iI (0)) dX12_leaves_4 rfl ?_
  refine rl_a0 dX12_leaves_5 ?_
  refine rg_R (.inl 0) 5 dX12_leaves_6 fg_X12_29 rfl rfl rfl (ok_M rfl) ?_
  refine ar_iconst (iI (0)) dX12_leaves_9 rfl ?_
  obtain ⟨a1, e1, H⟩ := wp_b H
  refine rc_S4v dX12_leaves_10 ml_X12_151 mc_X12_copiesRow (c_X12_copiesRow rfl (ok_M rfl) rfl (ok_M rfl) e1) rfl rfl rfl ?_
  replace H := wp_s H
  exact ar_vret dX12_leaves_13 rfl H
noncomputable def f_X12_comesBack (x1 : Int32) (h : am_H) : Option (Int32 × am_H) :=
  (f_X12_copiesRow 5 408 (iI (0)) 2 408 (iI (0)) h).bind (fun a1 => some ((x1, a1)))
theorem c_X12_comesBack {x1 : Int32} {h : am_H} {a : Int32 × am_H} (e : f_X12_comesBack x1 h = some a) : am_Mi yX12_comesBack cX12_comesBack 2 (some .int) 1 24 [am_r (.inl 0) 0, am_i x1] h a.1 a.2 := by
  refine am_M.ofi (A := [some (am_r (.inl 0) 0), some (am_i x1)]) (by decide +kernel) rfl (ble rfl) (fun Q hQ => ?_)
  have H : wp (f_X12_comesBack x1 h) (fun a => Q (some (am_i a.1)) a.2) := ⟨a, e, hQ⟩
  unfold f_X12_comesBack at H
  refine rl_a0 dX12_comesBack_0 ?_
  refine rg_R (.inl 0) 5 dX12_comesBack_1 fg_X12_29 rfl rfl rfl (ok_M rfl) ?_
  refine ar_iconst (iI (0)) dX12_comesBack_4 rfl ?_
  refine rl_a0 dX12_comesBack_5 ?_
  refine rg_R (.inl 0) 2 dX12_comesBack_6 fg_X12_20 rfl rfl rfl (ok_M rfl) ?_
  refine ar_iconst (iI (0)) dX12_comesBack_9 rfl ?_
  obtain ⟨a1, e1, H⟩ := wp_b H
  refine rc_S4v dX12_comesBack_10 ml_X12_151 mc_X12_copiesRow (c_X12_copiesRow rfl (ok_M rfl) rfl (ok_M rfl) e1) rfl rfl rfl ?_
  refine rl_i1 dX12_comesBack_13 ?_
  replace H := wp_s H
  exact ar_iret dX12_comesBack_14 rfl rfl H
noncomputable def f_X12_danger (x1 : Int32) (h : am_H) : Option (Int32 × am_H) :=
  (f_X12_isLetter0 x1 h).bind (fun a1 => (f_X12_goes a1 h).bind (fun a2 => if a2.1 = 0 then (some (((iI (0)), a2.2))) else ((f_X12_dangerOf x1 a2.2).bind (fun a3 => some ((a3, a2.2))))))
theorem c_X12_danger {x1 : Int32} {h : am_H} {a : Int32 × am_H} (e : f_X12_danger x1 h = some a) : am_Mi yX12_danger cX12_danger 2 (some .int) 7 150 [am_r (.inl 0) 0, am_i x1] h a.1 a.2 := by
  refine am_M.ofi (A := [some (am_r (.inl 0) 0), some (am_i x1)]) (by decide +kernel) rfl (ble rfl) (fun Q hQ => ?_)
  have H : wp (f_X12_danger x1 h) (fun a => Q (some (am_i a.1)) a.2) := ⟨a, e, hQ⟩
  unfold f_X12_danger at H
  refine rl_a0 dX12_danger_0 ?_
  refine rl_a0 dX12_danger_1 ?_
  refine rl_i1 dX12_danger_2 ?_
  obtain ⟨a1, e1, H⟩ := wp_b H
  refine rc_V1i dX12_danger_3 ml_X12_367 mc_X12_isLetter0 (c_X12_isLetter0 e1) rfl rfl rfl (ok_M rfl) rfl rfl rfl ?_
  obtain ⟨a2, e2, H⟩ := wp_b H
  refine rc_V1i dX12_danger_6 ml_X12_82 mc_X12_goes (c_X12_goes e2) rfl rfl rfl (ok_M rfl) rfl rfl rfl ?_
  refine ar_if_eq 20 dX12_danger_9 (by decide) (fun c1 => ?_) (fun c1 => ?_)
  · replace H := wp_t c1 H
    refine ar_iconst (iI (0)) dX12_danger_20 rfl ?_
    replace H := wp_s H
    exact ar_iret dX12_danger_21 rfl rfl H
  · replace H := wp_f c1 H
    refine rl_a0 dX12_danger_12 ?_
    refine rl_i1 dX12_danger_13 ?_
    obtain ⟨a3, e3, H⟩ := wp_b H
    refine rc_V1i dX12_danger_14 ml_X12_398 mc_X12_dangerOf (c_X12_dangerOf e3) rfl rfl rfl (ok_M rfl) rfl rfl rfl ?_
    refine ar_goto 21 dX12_danger_17 (by decide) ?_
    replace H := wp_s H
    exact ar_iret dX12_danger_21 rfl rfl H
noncomputable def f_X12_slipsBy (x1 : Int32) (h : am_H) : Option (Int32 × am_H) :=
  (f_X12_leaves h).bind (fun a1 => if ib (iI (3)) 408 then (am_lt (am_u a1 (.inl 0) 2 (((iI (3))).toNatClampNeg) x1) (fun h1 => if ib (iI (8)) 408 then ((f_X12_engravesAll (iI (1000)) h1).bind (fun a2 => if ib (iI (8)) 408 then ((f_X12_comesBack ((a2.2.1 (.inl 0) 2 ((iI (8))).toNatClampNeg) - (h1.1 (.inl 0) 2 ((iI (8))).toNatClampNeg)) a2.2).bind (fun a3 => some ((a3.1, a3.2)))) else none)) else none)) else none)
theorem c_X12_slipsBy {x1 : Int32} {h : am_H} {a : Int32 × am_H} (e : f_X12_slipsBy x1 h = some a) : am_Mi yX12_slipsBy cX12_slipsBy 4 (some .int) 9 198 [am_r (.inl 0) 0, am_i x1] h a.1 a.2 := by
  refine am_M.ofi (A := [some (am_r (.inl 0) 0), some (am_i x1), none, none]) (by decide +kernel) rfl (ble rfl) (fun Q hQ => ?_)
  have H : wp (f_X12_slipsBy x1 h) (fun a => Q (some (am_i a.1)) a.2) := ⟨a, e, hQ⟩
  unfold f_X12_slipsBy at H
  refine rl_a0 dX12_slipsBy_0 ?_
  obtain ⟨a1, e1, H⟩ := wp_b H
  refine rc_V0v dX12_slipsBy_1 ml_X12_401 mc_X12_leaves (c_X12_leaves e1) rfl rfl rfl (ok_M rfl) rfl rfl rfl ?_
  refine rl_a0 dX12_slipsBy_4 ?_
  refine rg_R (.inl 0) 2 dX12_slipsBy_5 fg_X12_20 rfl rfl rfl (ok_M rfl) ?_
  refine ar_iconst (iI (3)) dX12_slipsBy_8 rfl ?_
  refine rl_i1 dX12_slipsBy_9 ?_
  obtain ⟨b1, H⟩ := wp_g H
  refine ar_iast dX12_slipsBy_10 rfl (ok_M rfl) (ib_in b1) ?_
  replace H := wp_l H
  generalize am_u a1 (.inl 0) 2 (((iI (3))).toNatClampNeg) x1 = h1 at H ⊢
  refine rl_a0 dX12_slipsBy_11 ?_
  refine rg_R (.inl 0) 2 dX12_slipsBy_12 fg_X12_20 rfl rfl rfl (ok_M rfl) ?_
  refine ar_bipush (iI (8)) dX12_slipsBy_15 rfl ?_
  obtain ⟨b2, H⟩ := wp_g H
  refine ar_iald dX12_slipsBy_17 rfl (ok_M rfl) (ib_in b2) ?_
  refine rs_i2 dX12_slipsBy_18 rfl trivial ?_
  refine rl_a0 dX12_slipsBy_19 ?_
  refine ar_sipush (iI (1000)) dX12_slipsBy_20 rfl ?_
  obtain ⟨a2, e2, H⟩ := wp_b H
  refine rc_V1i dX12_slipsBy_23 ml_X12_404 mc_X12_engravesAll (c_X12_engravesAll e2) rfl rfl rfl (ok_M rfl) rfl rfl rfl ?_
  refine rs_i3 dX12_slipsBy_26 rfl trivial ?_
  refine rl_a0 dX12_slipsBy_27 ?_
  refine rl_a0 dX12_slipsBy_28 ?_
  refine rg_R (.inl 0) 2 dX12_slipsBy_29 fg_X12_20 rfl rfl rfl (ok_M rfl) ?_
  refine ar_bipush (iI (8)) dX12_slipsBy_32 rfl ?_
  obtain ⟨b3, H⟩ := wp_g H
  refine ar_iald dX12_slipsBy_34 rfl (ok_M rfl) (ib_in b3) ?_
  refine rl_i2 dX12_slipsBy_35 ?_
  refine ar_isub dX12_slipsBy_36 ?_
  obtain ⟨a3, e3, H⟩ := wp_b H
  refine rc_V1i dX12_slipsBy_37 ml_X12_407 mc_X12_comesBack (c_X12_comesBack e3) rfl rfl rfl (ok_M rfl) rfl rfl rfl ?_
  replace H := wp_s H
  exact ar_iret dX12_slipsBy_40 rfl rfl H
noncomputable def f_X12_slipsIf  (h : am_H) : Option (Int32 × am_H) :=
  am_lt (am_u h (.inl 0) 0 0 (iI (0))) (fun h1 => if ib (iI (3)) 408 then ((f_X12_slipsBy (h1.1 (.inl 0) 2 ((iI (3))).toNatClampNeg) h1).bind (fun a1 => some ((a1.1, a1.2)))) else none)
theorem c_X12_slipsIf  {h : am_H} {a : Int32 × am_H} (e : f_X12_slipsIf h = some a) : am_Mi yX12_slipsIf cX12_slipsIf 1 (some .int) 10 221 [am_r (.inl 0) 0] h a.1 a.2 := by
  refine am_M.ofi (A := [some (am_r (.inl 0) 0)]) (by decide +kernel) rfl (ble rfl) (fun Q hQ => ?_)
  have H : wp (f_X12_slipsIf h) (fun a => Q (some (am_i a.1)) a.2) := ⟨a, e, hQ⟩
  unfold f_X12_slipsIf at H
  refine rl_a0 dX12_slipsIf_0 ?_
  refine ar_iconst (iI (0)) dX12_slipsIf_1 rfl ?_
  refine ar_putI dX12_slipsIf_2 fg_X12_72 rfl rfl (ok_M rfl) rfl rfl ?_
  replace H := wp_l H
  generalize am_u h (.inl 0) 0 0 (iI (0)) = h1 at H ⊢
  refine rl_a0 dX12_slipsIf_5 ?_
  refine rl_a0 dX12_slipsIf_6 ?_
  refine rg_R (.inl 0) 2 dX12_slipsIf_7 fg_X12_20 rfl rfl rfl (ok_M rfl) ?_
  refine ar_iconst (iI (3)) dX12_slipsIf_10 rfl ?_
  obtain ⟨b1, H⟩ := wp_g H
  refine ar_iald dX12_slipsIf_11 rfl (ok_M rfl) (ib_in b1) ?_
  obtain ⟨a1, e1, H⟩ := wp_b H
  refine rc_V1i dX12_slipsIf_12 ml_X12_410 mc_X12_slipsBy (c_X12_slipsBy e1) rfl rfl rfl (ok_M rfl) rfl rfl rfl ?_
  replace H := wp_s H
  exact ar_iret dX12_slipsIf_15 rfl rfl H
noncomputable def s_X12_leastSharp  : am_S am_H → Option (am_S am_H ⊕ (Int32 × am_H)) := fun s => match s with
  | (7, [x1], [], [], h) => if (iI (100)) ≤ x1 then (some (.inr (((iI (-1)), h)))) else ((f_X12_slipsBy x1 h).bind (fun a1 => if a1.1 = 0 then (some (.inr ((x1, a1.2)))) else (some (.inl (7, [(x1 + 1)], [], [], a1.2)))))
  | _ => none
noncomputable def f_X12_leastSharp_7  (x1 : Int32) (h : am_H) : Option (Int32 × am_H) := lp (s_X12_leastSharp) (7, [x1], [], [], h)
theorem e_X12_leastSharp_7  (x1 : Int32) (h : am_H) : f_X12_leastSharp_7 x1 h = (if (iI (100)) ≤ x1 then (some (((iI (-1)), h))) else ((f_X12_slipsBy x1 h).bind (fun a1 => if a1.1 = 0 then (some ((x1, a1.2))) else (f_X12_leastSharp_7 (x1 + 1) a1.2)))) := by
  show lp _ _ = _
  rw [lp_eq, s_X12_leastSharp]
  simp only [lpk_i, lpk_b, lpk_l, lpk_n, lpk_j, lpk_r] <;> rfl
noncomputable def f_X12_leastSharp  (h : am_H) : Option (Int32 × am_H) :=
  am_lt (am_u h (.inl 0) 0 0 (iI (0))) (fun h1 => f_X12_leastSharp_7 (iI (1)) h1)
theorem c_X12_leastSharp_L  {Q : Option am_v → am_H → Prop} : ∀ s, wp (lp (s_X12_leastSharp) s) (fun a => Q (some (am_i a.1)) a.2) → ((∀ x1 h, s = (7, [x1], [], [], h) → am_V RX12 cX12_leastSharp 2 (some .int) 10 221 0 0 none (am_Tm cX12_leastSharp (some .int) Q) 0 0 7 [some (am_r (.inl 0) 0), some (am_i x1)] [] h)) := by
  refine lp_ind _ _ (fun s H => fun x1 h e => ?_)
  · subst e
    rw [s_X12_leastSharp] at H
    refine rl_i1 dX12_leastSharp_7 ?_
    refine ar_bipush (iI (100)) dX12_leastSharp_8 rfl ?_
    refine ar_ic_ge 29 dX12_leastSharp_10 (by decide) (fun c1 => ?_) (fun c1 => ?_)
    · replace H := wp_t c1 H
      refine ar_iconst (iI (-1)) dX12_leastSharp_29 rfl ?_
      replace H := lp_re H
      exact ar_iret dX12_leastSharp_30 rfl rfl H
    · replace H := wp_f c1 H
      refine rl_a0 dX12_leastSharp_13 ?_
      refine rl_i1 dX12_leastSharp_14 ?_
      obtain ⟨a1, e1, H⟩ := wp_b H
      refine rc_V1i dX12_leastSharp_15 ml_X12_410 mc_X12_slipsBy (c_X12_slipsBy e1) rfl rfl rfl (ok_M rfl) rfl rfl rfl ?_
      refine ar_if_ne 23 dX12_leastSharp_18 (by decide) (fun c2 => ?_) (fun c2 => ?_)
      · replace H := wp_f c2 H
        refine rn_1_1 dX12_leastSharp_23 rfl trivial ?_
        refine ar_goto 7 dX12_leastSharp_26 (by decide) ?_
        exact am_V.wk (am_s (am_s am_0)) ((lp_in H) _ _ rfl)
      · replace H := wp_t c2 H
        refine rl_i1 dX12_leastSharp_21 ?_
        replace H := lp_re H
        exact ar_iret dX12_leastSharp_22 rfl rfl H
theorem c_X12_leastSharp  {h : am_H} {a : Int32 × am_H} (e : f_X12_leastSharp h = some a) : am_Mi yX12_leastSharp cX12_leastSharp 2 (some .int) 10 221 [am_r (.inl 0) 0] h a.1 a.2 := by
  refine am_M.ofi (A := [some (am_r (.inl 0) 0), none]) (by decide +kernel) rfl (ble rfl) (fun Q hQ => ?_)
  have H : wp (f_X12_leastSharp h) (fun a => Q (some (am_i a.1)) a.2) := ⟨a, e, hQ⟩
  unfold f_X12_leastSharp at H
  refine rl_a0 dX12_leastSharp_0 ?_
  refine ar_iconst (iI (0)) dX12_leastSharp_1 rfl ?_
  refine ar_putI dX12_leastSharp_2 fg_X12_72 rfl rfl (ok_M rfl) rfl rfl ?_
  replace H := wp_l H
  generalize am_u h (.inl 0) 0 0 (iI (0)) = h1 at H ⊢
  refine ar_iconst (iI (1)) dX12_leastSharp_5 rfl ?_
  refine rs_i1 dX12_leastSharp_6 rfl trivial ?_
  exact am_V.wk (am_s (am_s am_0)) ((c_X12_leastSharp_L  _ H) _ _ rfl)
noncomputable def s_X12_crowdedBy  : am_S am_H → Option (am_S am_H ⊕ (Int32 × am_H)) := fun s => match s with
  | (6, [x1, x2], [], [], h) => if ib (iI (0)) 408 then (if (h.1 (.inl 0) 2 ((iI (0))).toNatClampNeg) ≤ x2 then ((f_X12_crowdedMany h).bind (fun a1 => (f_X12_comesBack a1 h).bind (fun a2 => some (.inr ((a2.1, a2.2)))))) else (if ib (((iI (12)) + ((iI (4)) * x2)) + (iI (0))) 408 then (if ib (((iI (12)) + ((iI (4)) * x2)) + (iI (0))) 408 then (am_lt (am_u h (.inl 0) 2 (((((iI (12)) + ((iI (4)) * x2)) + (iI (0)))).toNatClampNeg) ((h.1 (.inl 0) 2 ((((iI (12)) + ((iI (4)) * x2)) + (iI (0)))).toNatClampNeg) + x1)) (fun h1 => some (.inl (6, [x1, (x2 + 1)], [], [], h1)))) else none) else none)) else none
  | _ => none
noncomputable def f_X12_crowdedBy_6  (x1 : Int32) (x2 : Int32) (h : am_H) : Option (Int32 × am_H) := lp (s_X12_crowdedBy) (6, [x1, x2], [], [], h)
theorem e_X12_crowdedBy_6  (x1 : Int32) (x2 : Int32) (h : am_H) : f_X12_crowdedBy_6 x1 x2 h = (if ib (iI (0)) 408 then (if (h.1 (.inl 0) 2 ((iI (0))).toNatClampNeg) ≤ x2 then ((f_X12_crowdedMany h).bind (fun a1 => (f_X12_comesBack a1 h).bind (fun a2 => some ((a2.1, a2.2))))) else (if ib (((iI (12)) + ((iI (4)) * x2)) + (iI (0))) 408 then (if ib (((iI (12)) + ((iI (4)) * x2)) + (iI (0))) 408 then (am_lt (am_u h (.inl 0) 2 (((((iI (12)) + ((iI (4)) * x2)) + (iI (0)))).toNatClampNeg) ((h.1 (.inl 0) 2 ((((iI (12)) + ((iI (4)) * x2)) + (iI (0)))).toNatClampNeg) + x1)) (fun h1 => f_X12_crowdedBy_6 x1 (x2 + 1) h1)) else none) else none)) else none) := by
  show lp _ _ = _
  rw [lp_eq, s_X12_crowdedBy]
  simp only [lpk_i, lpk_b, lpk_l, lpk_n, lpk_j, lpk_r] <;> rfl
noncomputable def f_X12_crowdedBy (x1 : Int32) (h : am_H) : Option (Int32 × am_H) :=
  (f_X12_leaves h).bind (fun a1 => f_X12_crowdedBy_6 x1 (iI (0)) a1)
theorem c_X12_crowdedBy_L  {Q : Option am_v → am_H → Prop} : ∀ s, wp (lp (s_X12_crowdedBy) s) (fun a => Q (some (am_i a.1)) a.2) → ((∀ x1 x2 h, s = (6, [x1, x2], [], [], h) → am_V RX12 cX12_crowdedBy 3 (some .int) 9 194 0 0 none (am_Tm cX12_crowdedBy (some .int) Q) 0 0 6 [some (am_r (.inl 0) 0), some (am_i x1), some (am_i x2)] [] h)) := by
  refine lp_ind _ _ (fun s H => fun x1 x2 h e => ?_)
  · subst e
    rw [s_X12_crowdedBy] at H
    refine rl_i2 dX12_crowdedBy_6 ?_
    refine rl_a0 dX12_crowdedBy_7 ?_
    refine rg_R (.inl 0) 2 dX12_crowdedBy_8 fg_X12_20 rfl rfl rfl (ok_M rfl) ?_
    refine ar_iconst (iI (0)) dX12_crowdedBy_11 rfl ?_
    obtain ⟨b1, H⟩ := wp_g H
    refine ar_iald dX12_crowdedBy_12 rfl (ok_M rfl) (ib_in b1) ?_
    refine ar_ic_ge 39 dX12_crowdedBy_13 (by decide) (fun c1 => ?_) (fun c1 => ?_)
    · replace H := wp_t c1 H
      refine rl_a0 dX12_crowdedBy_39 ?_
      refine rl_a0 dX12_crowdedBy_40 ?_
      obtain ⟨a1, e1, H⟩ := wp_b H
      refine rc_V0i dX12_crowdedBy_41 ml_X12_413 mc_X12_crowdedMany (c_X12_crowdedMany e1) rfl rfl rfl (ok_M rfl) rfl rfl rfl ?_
      obtain ⟨a2, e2, H⟩ := wp_b H
      refine rc_V1i dX12_crowdedBy_44 ml_X12_407 mc_X12_comesBack (c_X12_comesBack e2) rfl rfl rfl (ok_M rfl) rfl rfl rfl ?_
      replace H := lp_re H
      exact ar_iret dX12_crowdedBy_47 rfl rfl H
    · replace H := wp_f c1 H
      refine rl_a0 dX12_crowdedBy_16 ?_
      refine rg_R (.inl 0) 2 dX12_crowdedBy_17 fg_X12_20 rfl rfl rfl (ok_M rfl) ?_
      refine ar_bipush (iI (12)) dX12_crowdedBy_20 rfl ?_
      refine ar_iconst (iI (4)) dX12_crowdedBy_22 rfl ?_
      refine rl_i2 dX12_crowdedBy_23 ?_
      refine ar_imul dX12_crowdedBy_24 ?_
      refine ar_iadd dX12_crowdedBy_25 ?_
      refine ar_iconst (iI (0)) dX12_crowdedBy_26 rfl ?_
      refine ar_iadd dX12_crowdedBy_27 ?_
      refine ar_dup2 dX12_crowdedBy_28 trivial trivial ?_
      obtain ⟨b2, H⟩ := wp_g H
      refine ar_iald dX12_crowdedBy_29 rfl (ok_M rfl) (ib_in b2) ?_
      refine rl_i1 dX12_crowdedBy_30 ?_
      refine ar_iadd dX12_crowdedBy_31 ?_
      obtain ⟨b3, H⟩ := wp_g H
      refine ar_iast dX12_crowdedBy_32 rfl (ok_M rfl) (ib_in b3) ?_
      replace H := wp_l H
      generalize am_u h (.inl 0) 2 (((((iI (12)) + ((iI (4)) * x2)) + (iI (0)))).toNatClampNeg) ((h.1 (.inl 0) 2 ((((iI (12)) + ((iI (4)) * x2)) + (iI (0)))).toNatClampNeg) + x1) = h1 at H ⊢
      refine rn_1_2 dX12_crowdedBy_33 rfl trivial ?_
      refine ar_goto 6 dX12_crowdedBy_36 (by decide) ?_
      exact am_V.wk (am_s (am_s (am_s am_0))) ((lp_in H) _ _ _ rfl)
theorem c_X12_crowdedBy {x1 : Int32} {h : am_H} {a : Int32 × am_H} (e : f_X12_crowdedBy x1 h = some a) : am_Mi yX12_crowdedBy cX12_crowdedBy 3 (some .int) 9 194 [am_r (.inl 0) 0, am_i x1] h a.1 a.2 := by
  refine am_M.ofi (A := [some (am_r (.inl 0) 0), some (am_i x1), none]) (by decide +kernel) rfl (ble rfl) (fun Q hQ => ?_)
  have H : wp (f_X12_crowdedBy x1 h) (fun a => Q (some (am_i a.1)) a.2) := ⟨a, e, hQ⟩
  unfold f_X12_crowdedBy at H
  refine rl_a0 dX12_crowdedBy_0 ?_
  obtain ⟨a1, e1, H⟩ := wp_b H
  refine rc_V0v dX12_crowdedBy_1 ml_X12_401 mc_X12_leaves (c_X12_leaves e1) rfl rfl rfl (ok_M rfl) rfl rfl rfl ?_
  refine ar_iconst (iI (0)) dX12_crowdedBy_4 rfl ?_
  refine rs_i2 dX12_crowdedBy_5 rfl trivial ?_
  exact am_V.wk (am_s (am_s (am_s am_0))) ((c_X12_crowdedBy_L  _ H) _ _ _ rfl)
noncomputable def s_X12_leastGrowth  : am_S am_H → Option (am_S am_H ⊕ (Int32 × am_H)) := fun s => match s with
  | (7, [x1], [], [], h) => if (iI (100)) ≤ x1 then (some (.inr (((iI (-1)), h)))) else ((f_X12_crowdedBy x1 h).bind (fun a1 => if a1.1 = 0 then (some (.inr ((x1, a1.2)))) else (some (.inl (7, [(x1 + 1)], [], [], a1.2)))))
  | _ => none
noncomputable def f_X12_leastGrowth_7  (x1 : Int32) (h : am_H) : Option (Int32 × am_H) := lp (s_X12_leastGrowth) (7, [x1], [], [], h)
theorem e_X12_leastGrowth_7  (x1 : Int32) (h : am_H) : f_X12_leastGrowth_7 x1 h = (if (iI (100)) ≤ x1 then (some (((iI (-1)), h))) else ((f_X12_crowdedBy x1 h).bind (fun a1 => if a1.1 = 0 then (some ((x1, a1.2))) else (f_X12_leastGrowth_7 (x1 + 1) a1.2)))) := by
  show lp _ _ = _
  rw [lp_eq, s_X12_leastGrowth]
  simp only [lpk_i, lpk_b, lpk_l, lpk_n, lpk_j, lpk_r] <;> rfl
noncomputable def f_X12_leastGrowth  (h : am_H) : Option (Int32 × am_H) :=
  am_lt (am_u h (.inl 0) 0 0 (iI (0))) (fun h1 => f_X12_leastGrowth_7 (iI (0)) h1)
theorem c_X12_leastGrowth_L  {Q : Option am_v → am_H → Prop} : ∀ s, wp (lp (s_X12_leastGrowth) s) (fun a => Q (some (am_i a.1)) a.2) → ((∀ x1 h, s = (7, [x1], [], [], h) → am_V RX12 cX12_leastGrowth 2 (some .int) 10 216 0 0 none (am_Tm cX12_leastGrowth (some .int) Q) 0 0 7 [some (am_r (.inl 0) 0), some (am_i x1)] [] h)) := by
  refine lp_ind _ _ (fun s H => fun x1 h e => ?_)
  · subst e
    rw [s_X12_leastGrowth] at H
    refine rl_i1 dX12_leastGrowth_7 ?_
    refine ar_bipush (iI (100)) dX12_leastGrowth_8 rfl ?_
    refine ar_ic_ge 29 dX12_leastGrowth_10 (by decide) (fun c1 => ?_) (fun c1 => ?_)
    · replace H := wp_t c1 H
      refine ar_iconst (iI (-1)) dX12_leastGrowth_29 rfl ?_
      replace H := lp_re H
      exact ar_iret dX12_leastGrowth_30 rfl rfl H
    · replace H := wp_f c1 H
      refine rl_a0 dX12_leastGrowth_13 ?_
      refine rl_i1 dX12_leastGrowth_14 ?_
      obtain ⟨a1, e1, H⟩ := wp_b H
      refine rc_V1i dX12_leastGrowth_15 ml_X12_416 mc_X12_crowdedBy (c_X12_crowdedBy e1) rfl rfl rfl (ok_M rfl) rfl rfl rfl ?_
      refine ar_if_ne 23 dX12_leastGrowth_18 (by decide) (fun c2 => ?_) (fun c2 => ?_)
      · replace H := wp_f c2 H
        refine rn_1_1 dX12_leastGrowth_23 rfl trivial ?_
        refine ar_goto 7 dX12_leastGrowth_26 (by decide) ?_
        exact am_V.wk (am_s (am_s am_0)) ((lp_in H) _ _ rfl)
      · replace H := wp_t c2 H
        refine rl_i1 dX12_leastGrowth_21 ?_
        replace H := lp_re H
        exact ar_iret dX12_leastGrowth_22 rfl rfl H
theorem c_X12_leastGrowth  {h : am_H} {a : Int32 × am_H} (e : f_X12_leastGrowth h = some a) : am_Mi yX12_leastGrowth cX12_leastGrowth 2 (some .int) 10 216 [am_r (.inl 0) 0] h a.1 a.2 := by
  refine am_M.ofi (A := [some (am_r (.inl 0) 0), none]) (by decide +kernel) rfl (ble rfl) (fun Q hQ => ?_)
  have H : wp (f_X12_leastGrowth h) (fun a => Q (some (am_i a.1)) a.2) := ⟨a, e, hQ⟩
  unfold f_X12_leastGrowth at H
  refine rl_a0 dX12_leastGrowth_0 ?_
  refine ar_iconst (iI (0)) dX12_leastGrowth_1 rfl ?_
  refine ar_putI dX12_leastGrowth_2 fg_X12_72 rfl rfl (ok_M rfl) rfl rfl ?_
  replace H := wp_l H
  generalize am_u h (.inl 0) 0 0 (iI (0)) = h1 at H ⊢
  refine ar_iconst (iI (0)) dX12_leastGrowth_5 rfl ?_
  refine rs_i1 dX12_leastGrowth_6 rfl trivial ?_
  exact am_V.wk (am_s (am_s am_0)) ((c_X12_leastGrowth_L  _ H) _ _ rfl)
noncomputable def f_X12_isPlace (x0 : Int32) : Option Int32 :=
  (f_X12_isIn x0.toInt64 (0 : Int64) (25 : Int64)).bind (fun a1 => if zb a1 then (some (a1)) else none)
theorem c_X12_isPlace {x0 : Int32} {h : am_H} {a : Int32} (e : f_X12_isPlace x0 = some a) : am_Mi yX12_isPlace cX12_isPlace 1 (some .boolean) 1 25 [am_i x0] h a h := by
  refine am_M.ofi (A := [some (am_i x0)]) (by decide +kernel) rfl (ble rfl) (fun Q hQ => ?_)
  have H : wp (f_X12_isPlace x0) (fun a => Q (some (am_i a)) h) := ⟨a, e, hQ⟩
  unfold f_X12_isPlace at H
  refine rl_i0 dX12_isPlace_0 ?_
  refine ar_i2l dX12_isPlace_1 ?_
  refine ar_lconst (0 : Int64) dX12_isPlace_2 rfl ?_
  refine ar_ldc2 (25) dX12_isPlace_3 kc_X12_419 ?_
  obtain ⟨a1, e1, H⟩ := wp_b H
  refine rc_S3i dX12_isPlace_6 ml_X12_90 mc_X12_isIn (c_X12_isIn e1) rfl rfl rfl ?_
  obtain ⟨b1, H⟩ := wp_g H
  replace H := wp_s H
  exact ar_iret dX12_isPlace_9 rfl (zb_n b1) H
noncomputable def f_X12_isWidth (x0 : Int32) : Option Int32 :=
  (f_X12_isIn x0.toInt64 (1 : Int64) (99 : Int64)).bind (fun a1 => if zb a1 then (some (a1)) else none)
theorem c_X12_isWidth {x0 : Int32} {h : am_H} {a : Int32} (e : f_X12_isWidth x0 = some a) : am_Mi yX12_isWidth cX12_isWidth 1 (some .boolean) 1 25 [am_i x0] h a h := by
  refine am_M.ofi (A := [some (am_i x0)]) (by decide +kernel) rfl (ble rfl) (fun Q hQ => ?_)
  have H : wp (f_X12_isWidth x0) (fun a => Q (some (am_i a)) h) := ⟨a, e, hQ⟩
  unfold f_X12_isWidth at H
  refine rl_i0 dX12_isWidth_0 ?_
  refine ar_i2l dX12_isWidth_1 ?_
  refine ar_lconst (1 : Int64) dX12_isWidth_2 rfl ?_
  refine ar_ldc2 (99) dX12_isWidth_3 kc_X12_421 ?_
  obtain ⟨a1, e1, H⟩ := wp_b H
  refine rc_S3i dX12_isWidth_6 ml_X12_90 mc_X12_isIn (c_X12_isIn e1) rfl rfl rfl ?_
  obtain ⟨b1, H⟩ := wp_g H
  replace H := wp_s H
  exact ar_iret dX12_isWidth_9 rfl (zb_n b1) H
noncomputable def f_X12_crowdedWith (x1 : Int32) (x2 : Int32) (h : am_H) : Option (Int32 × am_H) :=
  (f_X12_leaves h).bind (fun a1 => if ib ((iI (104)) + x1) 408 then (am_lt (am_u a1 (.inl 0) 2 ((((iI (104)) + x1)).toNatClampNeg) x2) (fun h1 => (f_X12_crowdedMany h1).bind (fun a2 => (f_X12_comesBack a2 h1).bind (fun a3 => some ((a3.1, a3.2)))))) else none)
theorem c_X12_crowdedWith {x1 : Int32} {x2 : Int32} {h : am_H} {a : Int32 × am_H} (e : f_X12_crowdedWith x1 x2 h = some a) : am_Mi yX12_crowdedWith cX12_crowdedWith 3 (some .int) 9 194 [am_r (.inl 0) 0, am_i x1, am_i x2] h a.1 a.2 := by
  refine am_M.ofi (A := [some (am_r (.inl 0) 0), some (am_i x1), some (am_i x2)]) (by decide +kernel) rfl (ble rfl) (fun Q hQ => ?_)
  have H : wp (f_X12_crowdedWith x1 x2 h) (fun a => Q (some (am_i a.1)) a.2) := ⟨a, e, hQ⟩
  unfold f_X12_crowdedWith at H
  refine rl_a0 dX12_crowdedWith_0 ?_
  obtain ⟨a1, e1, H⟩ := wp_b H
  refine rc_V0v dX12_crowdedWith_1 ml_X12_401 mc_X12_leaves (c_X12_leaves e1) rfl rfl rfl (ok_M rfl) rfl rfl rfl ?_
  refine rl_a0 dX12_crowdedWith_4 ?_
  refine rg_R (.inl 0) 2 dX12_crowdedWith_5 fg_X12_20 rfl rfl rfl (ok_M rfl) ?_
  refine ar_bipush (iI (104)) dX12_crowdedWith_8 rfl ?_
  refine rl_i1 dX12_crowdedWith_10 ?_
  refine ar_iadd dX12_crowdedWith_11 ?_
  refine rl_i2 dX12_crowdedWith_12 ?_
  obtain ⟨b1, H⟩ := wp_g H
  refine ar_iast dX12_crowdedWith_13 rfl (ok_M rfl) (ib_in b1) ?_
  replace H := wp_l H
  generalize am_u a1 (.inl 0) 2 ((((iI (104)) + x1)).toNatClampNeg) x2 = h1 at H ⊢
  refine rl_a0 dX12_crowdedWith_14 ?_
  refine rl_a0 dX12_crowdedWith_15 ?_
  obtain ⟨a2, e2, H⟩ := wp_b H
  refine rc_V0i dX12_crowdedWith_16 ml_X12_413 mc_X12_crowdedMany (c_X12_crowdedMany e2) rfl rfl rfl (ok_M rfl) rfl rfl rfl ?_
  obtain ⟨a3, e3, H⟩ := wp_b H
  refine rc_V1i dX12_crowdedWith_19 ml_X12_407 mc_X12_comesBack (c_X12_comesBack e3) rfl rfl rfl (ok_M rfl) rfl rfl rfl ?_
  replace H := wp_s H
  exact ar_iret dX12_crowdedWith_22 rfl rfl H
noncomputable def s_X12_mostWidth  : am_S am_H → Option (am_S am_H ⊕ (Int32 × am_H)) := fun s => match s with
  | (16, [x1, x2], [], [], h) => if x2 ≤ 0 then (some (.inr (((iI (-1)), h)))) else ((f_X12_crowdedWith x1 x2 h).bind (fun a1 => if a1.1 = 0 then (some (.inr ((x2, a1.2)))) else (some (.inl (16, [x1, (x2 + iI (-1))], [], [], a1.2)))))
  | _ => none
noncomputable def f_X12_mostWidth_16  (x1 : Int32) (x2 : Int32) (h : am_H) : Option (Int32 × am_H) := lp (s_X12_mostWidth) (16, [x1, x2], [], [], h)
theorem e_X12_mostWidth_16  (x1 : Int32) (x2 : Int32) (h : am_H) : f_X12_mostWidth_16 x1 x2 h = (if x2 ≤ 0 then (some (((iI (-1)), h))) else ((f_X12_crowdedWith x1 x2 h).bind (fun a1 => if a1.1 = 0 then (some ((x2, a1.2))) else (f_X12_mostWidth_16 x1 (x2 + iI (-1)) a1.2)))) := by
  show lp _ _ = _
  rw [lp_eq, s_X12_mostWidth]
  simp only [lpk_i, lpk_b, lpk_l, lpk_n, lpk_j, lpk_r] <;> rfl
noncomputable def f_X12_mostWidth (x1 : Int32) (h : am_H) : Option (Int32 × am_H) :=
  (f_X12_isPlace x1).bind (fun a1 => (f_X12_goes a1 h).bind (fun a2 => if a2.1 = 0 then (some (((iI (0)), a2.2))) else (f_X12_mostWidth_16 x1 (iI (99)) a2.2)))
theorem c_X12_mostWidth_L  {Q : Option am_v → am_H → Prop} : ∀ s, wp (lp (s_X12_mostWidth) s) (fun a => Q (some (am_i a.1)) a.2) → ((∀ x1 x2 h, s = (16, [x1, x2], [], [], h) → am_V RX12 cX12_mostWidth 3 (some .int) 10 216 0 0 none (am_Tm cX12_mostWidth (some .int) Q) 0 0 16 [some (am_r (.inl 0) 0), some (am_i x1), some (am_i x2)] [] h)) := by
  refine lp_ind _ _ (fun s H => fun x1 x2 h e => ?_)
  · subst e
    rw [s_X12_mostWidth] at H
    refine rl_i2 dX12_mostWidth_16 ?_
    refine ar_if_le 37 dX12_mostWidth_17 (by decide) (fun c1 => ?_) (fun c1 => ?_)
    · replace H := wp_t c1 H
      refine ar_iconst (iI (-1)) dX12_mostWidth_37 rfl ?_
      replace H := lp_re H
      exact ar_iret dX12_mostWidth_38 rfl rfl H
    · replace H := wp_f c1 H
      refine rl_a0 dX12_mostWidth_20 ?_
      refine rl_i1 dX12_mostWidth_21 ?_
      refine rl_i2 dX12_mostWidth_22 ?_
      obtain ⟨a1, e1, H⟩ := wp_b H
      refine rc_V2i dX12_mostWidth_23 ml_X12_426 mc_X12_crowdedWith (c_X12_crowdedWith e1) rfl rfl rfl (ok_M rfl) rfl rfl rfl ?_
      refine ar_if_ne 31 dX12_mostWidth_26 (by decide) (fun c2 => ?_) (fun c2 => ?_)
      · replace H := wp_f c2 H
        refine rn_m_2 (v := x2 + iI (-1)) dX12_mostWidth_31 rfl trivial rfl ?_
        refine ar_goto 16 dX12_mostWidth_34 (by decide) ?_
        exact am_V.wk (am_s (am_s (am_s am_0))) ((lp_in H) _ _ _ rfl)
      · replace H := wp_t c2 H
        refine rl_i2 dX12_mostWidth_29 ?_
        replace H := lp_re H
        exact ar_iret dX12_mostWidth_30 rfl rfl H
theorem c_X12_mostWidth {x1 : Int32} {h : am_H} {a : Int32 × am_H} (e : f_X12_mostWidth x1 h = some a) : am_Mi yX12_mostWidth cX12_mostWidth 3 (some .int) 10 216 [am_r (.inl 0) 0, am_i x1] h a.1 a.2 := by
  refine am_M.ofi (A := [some (am_r (.inl 0) 0), some (am_i x1), none]) (by decide +kernel) rfl (ble rfl) (fun Q hQ => ?_)
  have H : wp (f_X12_mostWidth x1 h) (fun a => Q (some (am_i a.1)) a.2) := ⟨a, e, hQ⟩
  unfold f_X12_mostWidth at H
  refine rl_a0 dX12_mostWidth_0 ?_
  refine rl_i1 dX12_mostWidth_1 ?_
  obtain ⟨a1, e1, H⟩ := wp_b H
  refine rc_S1i dX12_mostWidth_2 ml_X12_423 mc_X12_isPlace (c_X12_isPlace e1) rfl rfl rfl ?_
  obtain ⟨a2, e2, H⟩ := wp_b H
  refine rc_V1i dX12_mostWidth_5 ml_X12_82 mc_X12_goes (c_X12_goes e2) rfl rfl rfl (ok_M rfl) rfl rfl rfl ?_
  refine ar_if_ne 13 dX12_mostWidth_8 (by decide) (fun c1 => ?_) (fun c1 => ?_)
  · replace H := wp_f c1 H
    refine ar_bipush (iI (99)) dX12_mostWidth_13 rfl ?_
    refine rs_i2 dX12_mostWidth_15 rfl trivial ?_
    exact am_V.wk (am_s (am_s (am_s am_0))) ((c_X12_mostWidth_L  _ H) _ _ _ rfl)
  · replace H := wp_t c1 H
    refine ar_iconst (iI (0)) dX12_mostWidth_11 rfl ?_
    replace H := wp_s H
    exact ar_iret dX12_mostWidth_12 rfl rfl H
noncomputable def s_X12_isPlainWord  (h : am_H) : am_S Unit → Option (am_S Unit ⊕ Int32) := fun s => match s with
  | (15, [x1, x2], [], [], ()) => if (h.1 (.inl 0) 0 2) ≤ x2 then (if zb x1 then (some (.inr (x1))) else none) else (if x1 = 0 then (if zb x1 then (some (.inr (x1))) else none) else (if ib x2 500 then ((f_X12_isLetter (h.1 (.inl 0) 1 x2.toNatClampNeg)).bind (fun a1 => some (.inl (15, [a1, (x2 + 1)], [], [], ())))) else none))
  | _ => none
noncomputable def f_X12_isPlainWord_15  (x1 : Int32) (x2 : Int32) (h : am_H) : Option Int32 := lp (s_X12_isPlainWord h) (15, [x1, x2], [], [], ())
theorem e_X12_isPlainWord_15  (x1 : Int32) (x2 : Int32) (h : am_H) : f_X12_isPlainWord_15 x1 x2 h = (if (h.1 (.inl 0) 0 2) ≤ x2 then (if zb x1 then (some (x1)) else none) else (if x1 = 0 then (if zb x1 then (some (x1)) else none) else (if ib x2 500 then ((f_X12_isLetter (h.1 (.inl 0) 1 x2.toNatClampNeg)).bind (fun a1 => f_X12_isPlainWord_15 a1 (x2 + 1) h)) else none))) := by
  show lp _ _ = _
  rw [lp_eq, s_X12_isPlainWord]
  simp only [lpk_i, lpk_b, lpk_l, lpk_n, lpk_j, lpk_r] <;> rfl
noncomputable def f_X12_isPlainWord  (h : am_H) : Option Int32 :=
  (f_X12_isIn ((h.1 (.inl 0) 0 2).toInt64) (1 : Int64) (8 : Int64)).bind (fun a1 => f_X12_isPlainWord_15 a1 (iI (0)) h)
theorem c_X12_isPlainWord_L  {h : am_H} {Q : Option am_v → am_H → Prop} : ∀ s, wp (lp (s_X12_isPlainWord h) s) (fun a => Q (some (am_i a)) h) → ((∀ x1 x2, s = (15, [x1, x2], [], [], ()) → am_V RX12 cX12_isPlainWord 3 (some .boolean) 1 25 0 0 none (am_Tm cX12_isPlainWord (some .boolean) Q) 0 0 15 [some (am_r (.inl 0) 0), some (am_i x1), some (am_i x2)] [] h)) := by
  refine lp_ind _ _ (fun s H => fun x1 x2 e => ?_)
  · subst e
    rw [s_X12_isPlainWord] at H
    refine rl_i2 dX12_isPlainWord_15 ?_
    refine rl_a0 dX12_isPlainWord_16 ?_
    refine ar_getI dX12_isPlainWord_17 fg_X12_79 rfl rfl (ok_M rfl) ?_
    refine ar_ic_ge 43 dX12_isPlainWord_20 (by decide) (fun c1 => ?_) (fun c1 => ?_)
    · replace H := wp_t c1 H
      refine rl_i1 dX12_isPlainWord_43 ?_
      obtain ⟨b1, H⟩ := wp_g H
      replace H := lp_re H
      exact ar_iret dX12_isPlainWord_44 rfl (zb_n b1) H
    · replace H := wp_f c1 H
      refine rl_i1 dX12_isPlainWord_23 ?_
      refine ar_if_eq 43 dX12_isPlainWord_24 (by decide) (fun c2 => ?_) (fun c2 => ?_)
      · replace H := wp_t c2 H
        refine rl_i1 dX12_isPlainWord_43 ?_
        obtain ⟨b1, H⟩ := wp_g H
        replace H := lp_re H
        exact ar_iret dX12_isPlainWord_44 rfl (zb_n b1) H
      · replace H := wp_f c2 H
        refine rl_a0 dX12_isPlainWord_27 ?_
        refine rg_R (.inl 0) 1 dX12_isPlainWord_28 fg_X12_7 rfl rfl rfl (ok_M rfl) ?_
        refine rl_i2 dX12_isPlainWord_31 ?_
        obtain ⟨b1, H⟩ := wp_g H
        refine ar_iald dX12_isPlainWord_32 rfl (ok_M rfl) (ib_in b1) ?_
        obtain ⟨a1, e1, H⟩ := wp_b H
        refine rc_S1i dX12_isPlainWord_33 ml_X12_117 mc_X12_isLetter (c_X12_isLetter e1) rfl rfl rfl ?_
        refine rs_i1 dX12_isPlainWord_36 rfl trivial ?_
        refine rn_1_2 dX12_isPlainWord_37 rfl trivial ?_
        refine ar_goto 15 dX12_isPlainWord_40 (by decide) ?_
        exact am_V.wk (am_s (am_s (am_s am_0))) ((lp_in H) _ _ rfl)
theorem c_X12_isPlainWord  {h : am_H} {a : Int32} (e : f_X12_isPlainWord h = some a) : am_Mi yX12_isPlainWord cX12_isPlainWord 3 (some .boolean) 1 25 [am_r (.inl 0) 0] h a h := by
  refine am_M.ofi (A := [some (am_r (.inl 0) 0), none, none]) (by decide +kernel) rfl (ble rfl) (fun Q hQ => ?_)
  have H : wp (f_X12_isPlainWord h) (fun a => Q (some (am_i a)) h) := ⟨a, e, hQ⟩
  unfold f_X12_isPlainWord at H
  refine rl_a0 dX12_isPlainWord_0 ?_
  refine ar_getI dX12_isPlainWord_1 fg_X12_79 rfl rfl (ok_M rfl) ?_
  refine ar_i2l dX12_isPlainWord_4 ?_
  refine ar_lconst (1 : Int64) dX12_isPlainWord_5 rfl ?_
  refine ar_ldc2 (8) dX12_isPlainWord_6 kc_X12_429 ?_
  obtain ⟨a1, e1, H⟩ := wp_b H
  refine rc_S3i dX12_isPlainWord_9 ml_X12_90 mc_X12_isIn (c_X12_isIn e1) rfl rfl rfl ?_
  refine rs_i1 dX12_isPlainWord_12 rfl trivial ?_
  refine ar_iconst (iI (0)) dX12_isPlainWord_13 rfl ?_
  refine rs_i2 dX12_isPlainWord_14 rfl trivial ?_
  exact am_V.wk (am_s (am_s (am_s am_0))) ((c_X12_isPlainWord_L  _ H) _ _ rfl)
noncomputable def s_X12_roomIf  : am_S am_H → Option (am_S am_H ⊕ (Int32 × am_H)) := fun s => match s with
  | (13, [x1, x2], [], [], h) => if x1 ≤ x2 then ((f_X12_tightestNow h).bind (fun a1 => (f_X12_roomOf a1 h).bind (fun a2 => (f_X12_comesBack a2 h).bind (fun a3 => some (.inr ((a3.1, a3.2))))))) else (if ib x2 500 then ((f_X12_addsLetter ((h.1 (.inl 0) 1 x2.toNatClampNeg) - (iI (97))) h).bind (fun a1 => some (.inl (13, [x1, (x2 + 1)], [], [], a1)))) else none)
  | _ => none
noncomputable def f_X12_roomIf_13  (x1 : Int32) (x2 : Int32) (h : am_H) : Option (Int32 × am_H) := lp (s_X12_roomIf) (13, [x1, x2], [], [], h)
theorem e_X12_roomIf_13  (x1 : Int32) (x2 : Int32) (h : am_H) : f_X12_roomIf_13 x1 x2 h = (if x1 ≤ x2 then ((f_X12_tightestNow h).bind (fun a1 => (f_X12_roomOf a1 h).bind (fun a2 => (f_X12_comesBack a2 h).bind (fun a3 => some ((a3.1, a3.2)))))) else (if ib x2 500 then ((f_X12_addsLetter ((h.1 (.inl 0) 1 x2.toNatClampNeg) - (iI (97))) h).bind (fun a1 => f_X12_roomIf_13 x1 (x2 + 1) a1)) else none)) := by
  show lp _ _ = _
  rw [lp_eq, s_X12_roomIf]
  simp only [lpk_i, lpk_b, lpk_l, lpk_n, lpk_j, lpk_r] <;> rfl
noncomputable def f_X12_roomIf (x1 : Int32) (h : am_H) : Option (Int32 × am_H) :=
  (f_X12_leaves h).bind (fun a1 => if ib (iI (1)) 408 then (am_lt (am_u a1 (.inl 0) 2 (((iI (1))).toNatClampNeg) (iI (0))) (fun h1 => f_X12_roomIf_13 x1 (iI (0)) h1)) else none)
theorem c_X12_roomIf_L  {Q : Option am_v → am_H → Prop} : ∀ s, wp (lp (s_X12_roomIf) s) (fun a => Q (some (am_i a.1)) a.2) → ((∀ x1 x2 h, s = (13, [x1, x2], [], [], h) → am_V RX12 cX12_roomIf 3 (some .int) 8 173 0 0 none (am_Tm cX12_roomIf (some .int) Q) 0 0 13 [some (am_r (.inl 0) 0), some (am_i x1), some (am_i x2)] [] h)) := by
  refine lp_ind _ _ (fun s H => fun x1 x2 h e => ?_)
  · subst e
    rw [s_X12_roomIf] at H
    refine rl_i2 dX12_roomIf_13 ?_
    refine rl_i1 dX12_roomIf_14 ?_
    refine ar_ic_ge 37 dX12_roomIf_15 (by decide) (fun c1 => ?_) (fun c1 => ?_)
    · replace H := wp_t c1 H
      refine rl_a0 dX12_roomIf_37 ?_
      refine rl_a0 dX12_roomIf_38 ?_
      refine rl_a0 dX12_roomIf_39 ?_
      obtain ⟨a1, e1, H⟩ := wp_b H
      refine rc_V0i dX12_roomIf_40 ml_X12_392 mc_X12_tightestNow (c_X12_tightestNow e1) rfl rfl rfl (ok_M rfl) rfl rfl rfl ?_
      obtain ⟨a2, e2, H⟩ := wp_b H
      refine rc_V1i dX12_roomIf_43 ml_X12_301 mc_X12_roomOf (c_X12_roomOf e2) rfl rfl rfl (ok_M rfl) rfl rfl rfl ?_
      obtain ⟨a3, e3, H⟩ := wp_b H
      refine rc_V1i dX12_roomIf_46 ml_X12_407 mc_X12_comesBack (c_X12_comesBack e3) rfl rfl rfl (ok_M rfl) rfl rfl rfl ?_
      replace H := lp_re H
      exact ar_iret dX12_roomIf_49 rfl rfl H
    · replace H := wp_f c1 H
      refine rl_a0 dX12_roomIf_18 ?_
      refine rl_a0 dX12_roomIf_19 ?_
      refine rg_R (.inl 0) 1 dX12_roomIf_20 fg_X12_7 rfl rfl rfl (ok_M rfl) ?_
      refine rl_i2 dX12_roomIf_23 ?_
      obtain ⟨b1, H⟩ := wp_g H
      refine ar_iald dX12_roomIf_24 rfl (ok_M rfl) (ib_in b1) ?_
      refine ar_bipush (iI (97)) dX12_roomIf_25 rfl ?_
      refine ar_isub dX12_roomIf_27 ?_
      obtain ⟨a1, e1, H⟩ := wp_b H
      refine rc_V1v dX12_roomIf_28 ml_X12_197 mc_X12_addsLetter (c_X12_addsLetter e1) rfl rfl rfl (ok_M rfl) rfl rfl rfl ?_
      refine rn_1_2 dX12_roomIf_31 rfl trivial ?_
      refine ar_goto 13 dX12_roomIf_34 (by decide) ?_
      exact am_V.wk (am_s (am_s (am_s am_0))) ((lp_in H) _ _ _ rfl)
theorem c_X12_roomIf {x1 : Int32} {h : am_H} {a : Int32 × am_H} (e : f_X12_roomIf x1 h = some a) : am_Mi yX12_roomIf cX12_roomIf 3 (some .int) 8 173 [am_r (.inl 0) 0, am_i x1] h a.1 a.2 := by
  refine am_M.ofi (A := [some (am_r (.inl 0) 0), some (am_i x1), none]) (by decide +kernel) rfl (ble rfl) (fun Q hQ => ?_)
  have H : wp (f_X12_roomIf x1 h) (fun a => Q (some (am_i a.1)) a.2) := ⟨a, e, hQ⟩
  unfold f_X12_roomIf at H
  refine rl_a0 dX12_roomIf_0 ?_
  obtain ⟨a1, e1, H⟩ := wp_b H
  refine rc_V0v dX12_roomIf_1 ml_X12_401 mc_X12_leaves (c_X12_leaves e1) rfl rfl rfl (ok_M rfl) rfl rfl rfl ?_
  refine rl_a0 dX12_roomIf_4 ?_
  refine rg_R (.inl 0) 2 dX12_roomIf_5 fg_X12_20 rfl rfl rfl (ok_M rfl) ?_
  refine ar_iconst (iI (1)) dX12_roomIf_8 rfl ?_
  refine ar_iconst (iI (0)) dX12_roomIf_9 rfl ?_
  obtain ⟨b1, H⟩ := wp_g H
  refine ar_iast dX12_roomIf_10 rfl (ok_M rfl) (ib_in b1) ?_
  replace H := wp_l H
  generalize am_u a1 (.inl 0) 2 (((iI (1))).toNatClampNeg) (iI (0)) = h1 at H ⊢
  refine ar_iconst (iI (0)) dX12_roomIf_11 rfl ?_
  refine rs_i2 dX12_roomIf_12 rfl trivial ?_
  exact am_V.wk (am_s (am_s (am_s am_0))) ((c_X12_roomIf_L  _ H) _ _ _ rfl)
noncomputable def f_X12_tightestIf  (h : am_H) : Option (Int32 × am_H) :=
  (f_X12_isPlainWord h).bind (fun a1 => am_lt (am_u h (.inl 0) 0 2 (iI (0))) (fun h1 => (f_X12_goes a1 h1).bind (fun a2 => if a2.1 = 0 then (some (((iI (0)), a2.2))) else ((f_X12_roomIf (h.1 (.inl 0) 0 2) a2.2).bind (fun a3 => some ((a3.1, a3.2)))))))
theorem c_X12_tightestIf  {h : am_H} {a : Int32 × am_H} (e : f_X12_tightestIf h = some a) : am_Mi yX12_tightestIf cX12_tightestIf 3 (some .int) 9 195 [am_r (.inl 0) 0] h a.1 a.2 := by
  refine am_M.ofi (A := [some (am_r (.inl 0) 0), none, none]) (by decide +kernel) rfl (ble rfl) (fun Q hQ => ?_)
  have H : wp (f_X12_tightestIf h) (fun a => Q (some (am_i a.1)) a.2) := ⟨a, e, hQ⟩
  unfold f_X12_tightestIf at H
  refine rl_a0 dX12_tightestIf_0 ?_
  obtain ⟨a1, e1, H⟩ := wp_b H
  refine rc_V0i dX12_tightestIf_1 ml_X12_431 mc_X12_isPlainWord (c_X12_isPlainWord e1) rfl rfl rfl (ok_M rfl) rfl rfl rfl ?_
  refine rs_i1 dX12_tightestIf_4 rfl trivial ?_
  refine rl_a0 dX12_tightestIf_5 ?_
  refine ar_getI dX12_tightestIf_6 fg_X12_79 rfl rfl (ok_M rfl) ?_
  refine rs_i2 dX12_tightestIf_9 rfl trivial ?_
  refine rl_a0 dX12_tightestIf_10 ?_
  refine ar_iconst (iI (0)) dX12_tightestIf_11 rfl ?_
  refine ar_putI dX12_tightestIf_12 fg_X12_79 rfl rfl (ok_M rfl) rfl rfl ?_
  replace H := wp_l H
  generalize am_u h (.inl 0) 0 2 (iI (0)) = h1 at H ⊢
  refine rl_a0 dX12_tightestIf_15 ?_
  refine rl_i1 dX12_tightestIf_16 ?_
  obtain ⟨a2, e2, H⟩ := wp_b H
  refine rc_V1i dX12_tightestIf_17 ml_X12_82 mc_X12_goes (c_X12_goes e2) rfl rfl rfl (ok_M rfl) rfl rfl rfl ?_
  refine ar_if_eq 31 dX12_tightestIf_20 (by decide) (fun c1 => ?_) (fun c1 => ?_)
  · replace H := wp_t c1 H
    refine ar_iconst (iI (0)) dX12_tightestIf_31 rfl ?_
    replace H := wp_s H
    exact ar_iret dX12_tightestIf_32 rfl rfl H
  · replace H := wp_f c1 H
    refine rl_a0 dX12_tightestIf_23 ?_
    refine rl_i2 dX12_tightestIf_24 ?_
    obtain ⟨a3, e3, H⟩ := wp_b H
    refine rc_V1i dX12_tightestIf_25 ml_X12_434 mc_X12_roomIf (c_X12_roomIf e3) rfl rfl rfl (ok_M rfl) rfl rfl rfl ?_
    refine ar_goto 32 dX12_tightestIf_28 (by decide) ?_
    replace H := wp_s H
    exact ar_iret dX12_tightestIf_32 rfl rfl H
noncomputable def s_X12_dropsArc  : am_S am_H → Option (am_S am_H ⊕ am_H) := fun s => match s with
  | (14, [x2], [], [], h) => if ib (iI (0)) 408 then (if ((iI (4)) * (h.1 (.inl 0) 2 ((iI (0))).toNatClampNeg)) ≤ x2 then (some (.inr (h))) else (if ib (((iI (12)) + x2) + (iI (4))) 408 then (if ib ((iI (12)) + x2) 408 then (am_lt (am_u h (.inl 0) 2 ((((iI (12)) + x2)).toNatClampNeg) (h.1 (.inl 0) 2 ((((iI (12)) + x2) + (iI (4)))).toNatClampNeg)) (fun h1 => some (.inl (14, [(x2 + 1)], [], [], h1)))) else none) else none)) else none
  | _ => none
noncomputable def f_X12_dropsArc_14  (x2 : Int32) (h : am_H) : Option am_H := lp (s_X12_dropsArc) (14, [x2], [], [], h)
theorem e_X12_dropsArc_14  (x2 : Int32) (h : am_H) : f_X12_dropsArc_14 x2 h = (if ib (iI (0)) 408 then (if ((iI (4)) * (h.1 (.inl 0) 2 ((iI (0))).toNatClampNeg)) ≤ x2 then (some (h)) else (if ib (((iI (12)) + x2) + (iI (4))) 408 then (if ib ((iI (12)) + x2) 408 then (am_lt (am_u h (.inl 0) 2 ((((iI (12)) + x2)).toNatClampNeg) (h.1 (.inl 0) 2 ((((iI (12)) + x2) + (iI (4)))).toNatClampNeg)) (fun h1 => f_X12_dropsArc_14 (x2 + 1) h1)) else none) else none)) else none) := by
  show lp _ _ = _
  rw [lp_eq, s_X12_dropsArc]
  simp only [lpk_i, lpk_b, lpk_l, lpk_n, lpk_j, lpk_r] <;> rfl
noncomputable def f_X12_dropsArc (x1 : Int32) (h : am_H) : Option am_H :=
  if ib (iI (0)) 408 then (if ib (iI (0)) 408 then (am_lt (am_u h (.inl 0) 2 (((iI (0))).toNatClampNeg) ((h.1 (.inl 0) 2 ((iI (0))).toNatClampNeg) - (iI (1)))) (fun h1 => f_X12_dropsArc_14 ((iI (4)) * x1) h1)) else none) else none
theorem c_X12_dropsArc_L  {Q : Option am_v → am_H → Prop} : ∀ s, wp (lp (s_X12_dropsArc) s) (fun a => Q none a) → ((∀ x2 h, s = (14, [x2], [], [], h) → am_V RX12 cX12_dropsArc 3 (none) 0 0 0 0 none (am_Tm cX12_dropsArc (none) Q) 0 0 14 [some (am_r (.inl 0) 0), none, some (am_i x2)] [] h)) := by
  refine lp_ind _ _ (fun s H => fun x2 h e => ?_)
  · subst e
    rw [s_X12_dropsArc] at H
    refine rl_i2 dX12_dropsArc_14 ?_
    refine ar_iconst (iI (4)) dX12_dropsArc_15 rfl ?_
    refine rl_a0 dX12_dropsArc_16 ?_
    refine rg_R (.inl 0) 2 dX12_dropsArc_17 fg_X12_20 rfl rfl rfl (ok_M rfl) ?_
    refine ar_iconst (iI (0)) dX12_dropsArc_20 rfl ?_
    obtain ⟨b1, H⟩ := wp_g H
    refine ar_iald dX12_dropsArc_21 rfl (ok_M rfl) (ib_in b1) ?_
    refine ar_imul dX12_dropsArc_22 ?_
    refine ar_ic_ge 52 dX12_dropsArc_23 (by decide) (fun c1 => ?_) (fun c1 => ?_)
    · replace H := wp_t c1 H
      replace H := lp_re H
      exact ar_vret dX12_dropsArc_52 rfl H
    · replace H := wp_f c1 H
      refine rl_a0 dX12_dropsArc_26 ?_
      refine rg_R (.inl 0) 2 dX12_dropsArc_27 fg_X12_20 rfl rfl rfl (ok_M rfl) ?_
      refine ar_bipush (iI (12)) dX12_dropsArc_30 rfl ?_
      refine rl_i2 dX12_dropsArc_32 ?_
      refine ar_iadd dX12_dropsArc_33 ?_
      refine rl_a0 dX12_dropsArc_34 ?_
      refine rg_R (.inl 0) 2 dX12_dropsArc_35 fg_X12_20 rfl rfl rfl (ok_M rfl) ?_
      refine ar_bipush (iI (12)) dX12_dropsArc_38 rfl ?_
      refine rl_i2 dX12_dropsArc_40 ?_
      refine ar_iadd dX12_dropsArc_41 ?_
      refine ar_iconst (iI (4)) dX12_dropsArc_42 rfl ?_
      refine ar_iadd dX12_dropsArc_43 ?_
      obtain ⟨b2, H⟩ := wp_g H
      refine ar_iald dX12_dropsArc_44 rfl (ok_M rfl) (ib_in b2) ?_
      obtain ⟨b3, H⟩ := wp_g H
      refine ar_iast dX12_dropsArc_45 rfl (ok_M rfl) (ib_in b3) ?_
      replace H := wp_l H
      generalize am_u h (.inl 0) 2 ((((iI (12)) + x2)).toNatClampNeg) (h.1 (.inl 0) 2 ((((iI (12)) + x2) + (iI (4)))).toNatClampNeg) = h1 at H ⊢
      refine rn_1_2 dX12_dropsArc_46 rfl trivial ?_
      refine ar_goto 14 dX12_dropsArc_49 (by decide) ?_
      exact am_V.wk (am_s (am_n (am_s am_0))) ((lp_in H) _ _ rfl)
theorem c_X12_dropsArc {x1 : Int32} {h : am_H} {a : am_H} (e : f_X12_dropsArc x1 h = some a) : am_Mv yX12_dropsArc cX12_dropsArc 3 (none) 0 0 [am_r (.inl 0) 0, am_i x1] h a := by
  refine am_M.ofv (A := [some (am_r (.inl 0) 0), some (am_i x1), none]) (by decide +kernel) rfl (ble rfl) (fun Q hQ => ?_)
  have H : wp (f_X12_dropsArc x1 h) (fun a => Q none a) := ⟨a, e, hQ⟩
  unfold f_X12_dropsArc at H
  refine rl_a0 dX12_dropsArc_0 ?_
  refine rg_R (.inl 0) 2 dX12_dropsArc_1 fg_X12_20 rfl rfl rfl (ok_M rfl) ?_
  refine ar_iconst (iI (0)) dX12_dropsArc_4 rfl ?_
  refine ar_dup2 dX12_dropsArc_5 trivial trivial ?_
  obtain ⟨b1, H⟩ := wp_g H
  refine ar_iald dX12_dropsArc_6 rfl (ok_M rfl) (ib_in b1) ?_
  refine ar_iconst (iI (1)) dX12_dropsArc_7 rfl ?_
  refine ar_isub dX12_dropsArc_8 ?_
  obtain ⟨b2, H⟩ := wp_g H
  refine ar_iast dX12_dropsArc_9 rfl (ok_M rfl) (ib_in b2) ?_
  replace H := wp_l H
  generalize am_u h (.inl 0) 2 (((iI (0))).toNatClampNeg) ((h.1 (.inl 0) 2 ((iI (0))).toNatClampNeg) - (iI (1))) = h1 at H ⊢
  refine ar_iconst (iI (4)) dX12_dropsArc_10 rfl ?_
  refine rl_i1 dX12_dropsArc_11 ?_
  refine ar_imul dX12_dropsArc_12 ?_
  refine rs_i2 dX12_dropsArc_13 rfl trivial ?_
  exact am_V.wk (am_s (am_n (am_s am_0))) ((c_X12_dropsArc_L  _ H) _ _ rfl)
noncomputable def f_X12_crowdedWithout (x1 : Int32) (h : am_H) : Option (Int32 × am_H) :=
  (f_X12_leaves h).bind (fun a1 => (f_X12_dropsArc x1 a1).bind (fun a2 => (f_X12_crowdedMany a2).bind (fun a3 => (f_X12_comesBack a3 a2).bind (fun a4 => some ((a4.1, a4.2))))))
theorem c_X12_crowdedWithout {x1 : Int32} {h : am_H} {a : Int32 × am_H} (e : f_X12_crowdedWithout x1 h = some a) : am_Mi yX12_crowdedWithout cX12_crowdedWithout 2 (some .int) 9 194 [am_r (.inl 0) 0, am_i x1] h a.1 a.2 := by
  refine am_M.ofi (A := [some (am_r (.inl 0) 0), some (am_i x1)]) (by decide +kernel) rfl (ble rfl) (fun Q hQ => ?_)
  have H : wp (f_X12_crowdedWithout x1 h) (fun a => Q (some (am_i a.1)) a.2) := ⟨a, e, hQ⟩
  unfold f_X12_crowdedWithout at H
  refine rl_a0 dX12_crowdedWithout_0 ?_
  obtain ⟨a1, e1, H⟩ := wp_b H
  refine rc_V0v dX12_crowdedWithout_1 ml_X12_401 mc_X12_leaves (c_X12_leaves e1) rfl rfl rfl (ok_M rfl) rfl rfl rfl ?_
  refine rl_a0 dX12_crowdedWithout_4 ?_
  refine rl_i1 dX12_crowdedWithout_5 ?_
  obtain ⟨a2, e2, H⟩ := wp_b H
  refine rc_V1v dX12_crowdedWithout_6 ml_X12_437 mc_X12_dropsArc (c_X12_dropsArc e2) rfl rfl rfl (ok_M rfl) rfl rfl rfl ?_
  refine rl_a0 dX12_crowdedWithout_9 ?_
  refine rl_a0 dX12_crowdedWithout_10 ?_
  obtain ⟨a3, e3, H⟩ := wp_b H
  refine rc_V0i dX12_crowdedWithout_11 ml_X12_413 mc_X12_crowdedMany (c_X12_crowdedMany e3) rfl rfl rfl (ok_M rfl) rfl rfl rfl ?_
  obtain ⟨a4, e4, H⟩ := wp_b H
  refine rc_V1i dX12_crowdedWithout_14 ml_X12_407 mc_X12_comesBack (c_X12_comesBack e4) rfl rfl rfl (ok_M rfl) rfl rfl rfl ?_
  replace H := wp_s H
  exact ar_iret dX12_crowdedWithout_17 rfl rfl H
noncomputable def s_X12_spare  : am_S am_H → Option (am_S am_H ⊕ (Int32 × am_H)) := fun s => match s with
  | (11, [x1, x2, x3], [], [], h) => if ib (iI (0)) 408 then (if (h.1 (.inl 0) 2 ((iI (0))).toNatClampNeg) ≤ x3 then (some (.inr ((x1, h)))) else ((f_X12_crowdedWithout x3 h).bind (fun a1 => if x1 = (iI (-1)) then (some (.inl (11, [x3, a1.1, (x3 + 1)], [], [], a1.2))) else (if a1.1 < x2 then (some (.inl (11, [x3, a1.1, (x3 + 1)], [], [], a1.2))) else (some (.inl (11, [x1, x2, (x3 + 1)], [], [], a1.2))))))) else none
  | _ => none
noncomputable def f_X12_spare_11  (x1 : Int32) (x2 : Int32) (x3 : Int32) (h : am_H) : Option (Int32 × am_H) := lp (s_X12_spare) (11, [x1, x2, x3], [], [], h)
theorem e_X12_spare_11  (x1 : Int32) (x2 : Int32) (x3 : Int32) (h : am_H) : f_X12_spare_11 x1 x2 x3 h = (if ib (iI (0)) 408 then (if (h.1 (.inl 0) 2 ((iI (0))).toNatClampNeg) ≤ x3 then (some ((x1, h))) else ((f_X12_crowdedWithout x3 h).bind (fun a1 => if x1 = (iI (-1)) then (f_X12_spare_11 x3 a1.1 (x3 + 1) a1.2) else (if a1.1 < x2 then (f_X12_spare_11 x3 a1.1 (x3 + 1) a1.2) else (f_X12_spare_11 x1 x2 (x3 + 1) a1.2))))) else none) := by
  show lp _ _ = _
  rw [lp_eq, s_X12_spare]
  simp only [lpk_i, lpk_b, lpk_l, lpk_n, lpk_j, lpk_r] <;> rfl
noncomputable def f_X12_spare  (h : am_H) : Option (Int32 × am_H) :=
  am_lt (am_u h (.inl 0) 0 0 (iI (0))) (fun h1 => f_X12_spare_11 (iI (-1)) (iI (0)) (iI (0)) h1)
theorem c_X12_spare_L  {Q : Option am_v → am_H → Prop} : ∀ s, wp (lp (s_X12_spare) s) (fun a => Q (some (am_i a.1)) a.2) → ((∀ x1 x2 x3 h, s = (11, [x1, x2, x3], [], [], h) → am_V RX12 cX12_spare 5 (some .int) 10 215 0 0 none (am_Tm cX12_spare (some .int) Q) 0 0 11 [some (am_r (.inl 0) 0), some (am_i x1), some (am_i x2), some (am_i x3), none] [] h)) := by
  refine lp_ind _ _ (fun s H => fun x1 x2 x3 h e => ?_)
  · subst e
    rw [s_X12_spare] at H
    refine rl_i3 dX12_spare_11 ?_
    refine rl_a0 dX12_spare_12 ?_
    refine rg_R (.inl 0) 2 dX12_spare_13 fg_X12_20 rfl rfl rfl (ok_M rfl) ?_
    refine ar_iconst (iI (0)) dX12_spare_16 rfl ?_
    obtain ⟨b1, H⟩ := wp_g H
    refine ar_iald dX12_spare_17 rfl (ok_M rfl) (ib_in b1) ?_
    refine ar_ic_ge 53 dX12_spare_18 (by decide) (fun c1 => ?_) (fun c1 => ?_)
    · replace H := wp_t c1 H
      refine rl_i1 dX12_spare_53 ?_
      replace H := lp_re H
      exact ar_iret dX12_spare_54 rfl rfl H
    · replace H := wp_f c1 H
      refine rl_a0 dX12_spare_21 ?_
      refine rl_i3 dX12_spare_22 ?_
      obtain ⟨a1, e1, H⟩ := wp_b H
      refine rc_V1i dX12_spare_23 ml_X12_440 mc_X12_crowdedWithout (c_X12_crowdedWithout e1) rfl rfl rfl (ok_M rfl) rfl rfl rfl ?_
      refine rs_i4 dX12_spare_26 rfl trivial ?_
      refine rl_i1 dX12_spare_28 ?_
      refine ar_iconst (iI (-1)) dX12_spare_29 rfl ?_
      refine ar_ic_eq 42 dX12_spare_30 (by decide) (fun c2 => ?_) (fun c2 => ?_)
      · replace H := wp_t c2 H
        refine rl_i3 dX12_spare_42 ?_
        refine rs_i1 dX12_spare_43 rfl trivial ?_
        refine rl_i4 dX12_spare_44 ?_
        refine rs_i2 dX12_spare_46 rfl trivial ?_
        refine rn_1_3 dX12_spare_47 rfl trivial ?_
        refine ar_goto 11 dX12_spare_50 (by decide) ?_
        exact am_V.wk (am_s (am_s (am_s (am_s (am_n am_0))))) ((lp_in H) _ _ _ _ rfl)
      · replace H := wp_f c2 H
        refine rl_i4 dX12_spare_33 ?_
        refine rl_i2 dX12_spare_35 ?_
        refine ar_ic_lt 42 dX12_spare_36 (by decide) (fun c3 => ?_) (fun c3 => ?_)
        · replace H := wp_t c3 H
          refine rl_i3 dX12_spare_42 ?_
          refine rs_i1 dX12_spare_43 rfl trivial ?_
          refine rl_i4 dX12_spare_44 ?_
          refine rs_i2 dX12_spare_46 rfl trivial ?_
          refine rn_1_3 dX12_spare_47 rfl trivial ?_
          refine ar_goto 11 dX12_spare_50 (by decide) ?_
          exact am_V.wk (am_s (am_s (am_s (am_s (am_n am_0))))) ((lp_in H) _ _ _ _ rfl)
        · replace H := wp_f c3 H
          refine ar_goto 47 dX12_spare_39 (by decide) ?_
          refine rn_1_3 dX12_spare_47 rfl trivial ?_
          refine ar_goto 11 dX12_spare_50 (by decide) ?_
          exact am_V.wk (am_s (am_s (am_s (am_s (am_n am_0))))) ((lp_in H) _ _ _ _ rfl)
theorem c_X12_spare  {h : am_H} {a : Int32 × am_H} (e : f_X12_spare h = some a) : am_Mi yX12_spare cX12_spare 5 (some .int) 10 215 [am_r (.inl 0) 0] h a.1 a.2 := by
  refine am_M.ofi (A := [some (am_r (.inl 0) 0), none, none, none, none]) (by decide +kernel) rfl (ble rfl) (fun Q hQ => ?_)
  have H : wp (f_X12_spare h) (fun a => Q (some (am_i a.1)) a.2) := ⟨a, e, hQ⟩
  unfold f_X12_spare at H
  refine rl_a0 dX12_spare_0 ?_
  refine ar_iconst (iI (0)) dX12_spare_1 rfl ?_
  refine ar_putI dX12_spare_2 fg_X12_72 rfl rfl (ok_M rfl) rfl rfl ?_
  replace H := wp_l H
  generalize am_u h (.inl 0) 0 0 (iI (0)) = h1 at H ⊢
  refine ar_iconst (iI (-1)) dX12_spare_5 rfl ?_
  refine rs_i1 dX12_spare_6 rfl trivial ?_
  refine ar_iconst (iI (0)) dX12_spare_7 rfl ?_
  refine rs_i2 dX12_spare_8 rfl trivial ?_
  refine ar_iconst (iI (0)) dX12_spare_9 rfl ?_
  refine rs_i3 dX12_spare_10 rfl trivial ?_
  exact am_V.wk (am_s (am_s (am_s (am_s (am_n am_0))))) ((c_X12_spare_L  _ H) _ _ _ _ rfl)
noncomputable def f_X12_mayEngrave  (h : am_H) : Option Int32 :=
  if ib (iI (0)) 408 then (if (h.1 (.inl 0) 2 ((iI (0))).toNatClampNeg) ≤ 0 then (some ((iI (0)))) else (if ib (iI (8)) 408 then (if (iI (40)) < (h.1 (.inl 0) 2 ((iI (8))).toNatClampNeg) then (some ((iI (0)))) else (some ((iI (1))))) else none)) else none
theorem c_X12_mayEngrave  {h : am_H} {a : Int32} (e : f_X12_mayEngrave h = some a) : am_Mi yX12_mayEngrave cX12_mayEngrave 1 (some .boolean) 0 0 [am_r (.inl 0) 0] h a h := by
  refine am_M.ofi (A := [some (am_r (.inl 0) 0)]) (by decide +kernel) rfl (ble rfl) (fun Q hQ => ?_)
  have H : wp (f_X12_mayEngrave h) (fun a => Q (some (am_i a)) h) := ⟨a, e, hQ⟩
  unfold f_X12_mayEngrave at H
  refine rl_a0 dX12_mayEngrave_0 ?_
  refine rg_R (.inl 0) 2 dX12_mayEngrave_1 fg_X12_20 rfl rfl rfl (ok_M rfl) ?_
  refine ar_iconst (iI (0)) dX12_mayEngrave_4 rfl ?_
  obtain ⟨b1, H⟩ := wp_g H
  refine ar_iald dX12_mayEngrave_5 rfl (ok_M rfl) (ib_in b1) ?_
  refine ar_if_le 25 dX12_mayEngrave_6 (by decide) (fun c1 => ?_) (fun c1 => ?_)
  · replace H := wp_t c1 H
    refine ar_iconst (iI (0)) dX12_mayEngrave_25 rfl ?_
    replace H := wp_s H
    exact ar_iret dX12_mayEngrave_26 rfl rfl H
  · replace H := wp_f c1 H
    refine rl_a0 dX12_mayEngrave_9 ?_
    refine rg_R (.inl 0) 2 dX12_mayEngrave_10 fg_X12_20 rfl rfl rfl (ok_M rfl) ?_
    refine ar_bipush (iI (8)) dX12_mayEngrave_13 rfl ?_
    obtain ⟨b2, H⟩ := wp_g H
    refine ar_iald dX12_mayEngrave_15 rfl (ok_M rfl) (ib_in b2) ?_
    refine ar_bipush (iI (40)) dX12_mayEngrave_16 rfl ?_
    refine ar_ic_gt 25 dX12_mayEngrave_18 (by decide) (fun c2 => ?_) (fun c2 => ?_)
    · replace H := wp_t c2 H
      refine ar_iconst (iI (0)) dX12_mayEngrave_25 rfl ?_
      replace H := wp_s H
      exact ar_iret dX12_mayEngrave_26 rfl rfl H
    · replace H := wp_f c2 H
      refine ar_iconst (iI (1)) dX12_mayEngrave_21 rfl ?_
      refine ar_goto 26 dX12_mayEngrave_22 (by decide) ?_
      replace H := wp_s H
      exact ar_iret dX12_mayEngrave_26 rfl rfl H
noncomputable def f_X12_isPlanned (x1 : Int32) (h : am_H) : Option Int32 :=
  (f_X12_ofLetter x1 (iI (1)) h).bind (fun a1 => if a1 = 0 then (some ((iI (1)))) else (some ((iI (0)))))
theorem c_X12_isPlanned {x1 : Int32} {h : am_H} {a : Int32} (e : f_X12_isPlanned x1 h = some a) : am_Mi yX12_isPlanned cX12_isPlanned 2 (some .boolean) 1 22 [am_r (.inl 0) 0, am_i x1] h a h := by
  refine am_M.ofi (A := [some (am_r (.inl 0) 0), some (am_i x1)]) (by decide +kernel) rfl (ble rfl) (fun Q hQ => ?_)
  have H : wp (f_X12_isPlanned x1 h) (fun a => Q (some (am_i a)) h) := ⟨a, e, hQ⟩
  unfold f_X12_isPlanned at H
  refine rl_a0 dX12_isPlanned_0 ?_
  refine rl_i1 dX12_isPlanned_1 ?_
  refine ar_iconst (iI (1)) dX12_isPlanned_2 rfl ?_
  obtain ⟨a1, e1, H⟩ := wp_b H
  refine rc_V2i dX12_isPlanned_3 ml_X12_280 mc_X12_ofLetter (c_X12_ofLetter e1) rfl rfl rfl (ok_M rfl) rfl rfl rfl ?_
  refine ar_if_ne 13 dX12_isPlanned_6 (by decide) (fun c1 => ?_) (fun c1 => ?_)
  · replace H := wp_f c1 H
    refine ar_iconst (iI (0)) dX12_isPlanned_13 rfl ?_
    replace H := wp_s H
    exact ar_iret dX12_isPlanned_14 rfl rfl H
  · replace H := wp_t c1 H
    refine ar_iconst (iI (1)) dX12_isPlanned_9 rfl ?_
    refine ar_goto 14 dX12_isPlanned_10 (by decide) ?_
    replace H := wp_s H
    exact ar_iret dX12_isPlanned_14 rfl rfl H
noncomputable def f_X12_engrave_32  (x1 : Int32) (y1 : Int32) (y2 : Int32) (h : am_H) : Option (Int32 × am_H) :=
  (f_X12_goesBoth y1 y2 h).bind (fun a1 => if a1.1 = 0 then (some (((iI (0)), a1.2))) else ((f_X12_laysAside a1.2).bind (fun a2 => (f_X12_engraves x1 a2).bind (fun a3 => (f_X12_kept a3.1 a3.2).bind (fun a4 => some ((a4.1, a4.2)))))))
noncomputable def f_X12_engrave (x1 : Int32) (h : am_H) : Option (Int32 × am_H) :=
  (f_X12_isLetter0 x1 h).bind (fun a1 => if a1 = 0 then (f_X12_engrave_32 x1 a1 (iI (0)) h) else ((f_X12_isPlanned x1 h).bind (fun a2 => if a2 = 0 then (f_X12_engrave_32 x1 a1 (iI (0)) h) else ((f_X12_mayEngrave h).bind (fun a3 => if a3 = 0 then (f_X12_engrave_32 x1 a1 (iI (0)) h) else (f_X12_engrave_32 x1 a1 (iI (1)) h))))))
theorem c_X12_engrave_32  {x1 : Int32} {y1 : Int32} {y2 : Int32} {h : am_H} {Q : Option am_v → am_H → Prop} (H : wp (f_X12_engrave_32 x1 y1 y2 h) (fun a => Q (some (am_i a.1)) a.2)) : am_V RX12 cX12_engrave 3 (some .int) 8 174 0 0 none (am_Tm cX12_engrave (some .int) Q) 0 0 32 [some (am_r (.inl 0) 0), some (am_i x1), none] [am_i y2, am_i y1, am_r (.inl 0) 0] h := by
  unfold f_X12_engrave_32 at H
  obtain ⟨a1, e1, H⟩ := wp_b H
  refine rc_V2i dX12_engrave_32 ml_X12_360 mc_X12_goesBoth (c_X12_goesBoth e1) rfl rfl rfl (ok_M rfl) rfl rfl rfl ?_
  refine ar_if_ne 40 dX12_engrave_35 (by decide) (fun c1 => ?_) (fun c1 => ?_)
  · replace H := wp_f c1 H
    refine rl_a0 dX12_engrave_40 ?_
    obtain ⟨a2, e2, H⟩ := wp_b H
    refine rc_V0v dX12_engrave_41 ml_X12_247 mc_X12_laysAside (c_X12_laysAside e2) rfl rfl rfl (ok_M rfl) rfl rfl rfl ?_
    refine rl_a0 dX12_engrave_44 ?_
    refine rl_a0 dX12_engrave_45 ?_
    refine rl_i1 dX12_engrave_46 ?_
    obtain ⟨a3, e3, H⟩ := wp_b H
    refine rc_V1i dX12_engrave_47 ml_X12_344 mc_X12_engraves (c_X12_engraves e3) rfl rfl rfl (ok_M rfl) rfl rfl rfl ?_
    obtain ⟨a4, e4, H⟩ := wp_b H
    refine rc_V1i dX12_engrave_50 ml_X12_449 mc_X12_kept (c_X12_kept e4) rfl rfl rfl (ok_M rfl) rfl rfl rfl ?_
    replace H := wp_s H
    exact ar_iret dX12_engrave_53 rfl rfl H
  · replace H := wp_t c1 H
    refine ar_iconst (iI (0)) dX12_engrave_38 rfl ?_
    replace H := wp_s H
    exact ar_iret dX12_engrave_39 rfl rfl H
theorem c_X12_engrave {x1 : Int32} {h : am_H} {a : Int32 × am_H} (e : f_X12_engrave x1 h = some a) : am_Mi yX12_engrave cX12_engrave 3 (some .int) 8 174 [am_r (.inl 0) 0, am_i x1] h a.1 a.2 := by
  refine am_M.ofi (A := [some (am_r (.inl 0) 0), some (am_i x1), none]) (by decide +kernel) rfl (ble rfl) (fun Q hQ => ?_)
  have H : wp (f_X12_engrave x1 h) (fun a => Q (some (am_i a.1)) a.2) := ⟨a, e, hQ⟩
  unfold f_X12_engrave at H
  refine rl_a0 dX12_engrave_0 ?_
  refine rl_i1 dX12_engrave_1 ?_
  obtain ⟨a1, e1, H⟩ := wp_b H
  refine rc_V1i dX12_engrave_2 ml_X12_367 mc_X12_isLetter0 (c_X12_isLetter0 e1) rfl rfl rfl (ok_M rfl) rfl rfl rfl ?_
  refine rs_i2 dX12_engrave_5 rfl trivial ?_
  refine rl_a0 dX12_engrave_6 ?_
  refine rl_i2 dX12_engrave_7 ?_
  refine rl_i2 dX12_engrave_8 ?_
  refine ar_if_eq 31 dX12_engrave_9 (by decide) (fun c1 => ?_) (fun c1 => ?_)
  · replace H := wp_t c1 H
    refine ar_iconst (iI (0)) dX12_engrave_31 rfl ?_
    exact am_V.wk (am_s (am_s (am_n am_0))) (c_X12_engrave_32  H)
  · replace H := wp_f c1 H
    refine rl_a0 dX12_engrave_12 ?_
    refine rl_i1 dX12_engrave_13 ?_
    obtain ⟨a2, e2, H⟩ := wp_b H
    refine rc_V1i dX12_engrave_14 ml_X12_443 mc_X12_isPlanned (c_X12_isPlanned e2) rfl rfl rfl (ok_M rfl) rfl rfl rfl ?_
    refine ar_if_eq 31 dX12_engrave_17 (by decide) (fun c2 => ?_) (fun c2 => ?_)
    · replace H := wp_t c2 H
      refine ar_iconst (iI (0)) dX12_engrave_31 rfl ?_
      exact am_V.wk (am_s (am_s (am_n am_0))) (c_X12_engrave_32  H)
    · replace H := wp_f c2 H
      refine rl_a0 dX12_engrave_20 ?_
      obtain ⟨a3, e3, H⟩ := wp_b H
      refine rc_V0i dX12_engrave_21 ml_X12_446 mc_X12_mayEngrave (c_X12_mayEngrave e3) rfl rfl rfl (ok_M rfl) rfl rfl rfl ?_
      refine ar_if_eq 31 dX12_engrave_24 (by decide) (fun c3 => ?_) (fun c3 => ?_)
      · replace H := wp_t c3 H
        refine ar_iconst (iI (0)) dX12_engrave_31 rfl ?_
        exact am_V.wk (am_s (am_s (am_n am_0))) (c_X12_engrave_32  H)
      · replace H := wp_f c3 H
        refine ar_iconst (iI (1)) dX12_engrave_27 rfl ?_
        refine ar_goto 32 dX12_engrave_28 (by decide) ?_
        exact am_V.wk (am_s (am_s (am_n am_0))) (c_X12_engrave_32  H)
noncomputable def f_X12_mayEngraveAll  (h : am_H) : Option Int32 :=
  (f_X12_engravedMany h).bind (fun a1 => if ib (iI (1)) 408 then (if (h.1 (.inl 0) 2 ((iI (1))).toNatClampNeg) ≤ a1 then (some ((iI (0)))) else ((f_X12_mayEngrave h).bind (fun a2 => if a2 = 0 then (some ((iI (0)))) else (some ((iI (1))))))) else none)
theorem c_X12_mayEngraveAll  {h : am_H} {a : Int32} (e : f_X12_mayEngraveAll h = some a) : am_Mi yX12_mayEngraveAll cX12_mayEngraveAll 1 (some .boolean) 2 44 [am_r (.inl 0) 0] h a h := by
  refine am_M.ofi (A := [some (am_r (.inl 0) 0)]) (by decide +kernel) rfl (ble rfl) (fun Q hQ => ?_)
  have H : wp (f_X12_mayEngraveAll h) (fun a => Q (some (am_i a)) h) := ⟨a, e, hQ⟩
  unfold f_X12_mayEngraveAll at H
  refine rl_a0 dX12_mayEngraveAll_0 ?_
  obtain ⟨a1, e1, H⟩ := wp_b H
  refine rc_V0i dX12_mayEngraveAll_1 ml_X12_349 mc_X12_engravedMany (c_X12_engravedMany e1) rfl rfl rfl (ok_M rfl) rfl rfl rfl ?_
  refine rl_a0 dX12_mayEngraveAll_4 ?_
  refine rg_R (.inl 0) 2 dX12_mayEngraveAll_5 fg_X12_20 rfl rfl rfl (ok_M rfl) ?_
  refine ar_iconst (iI (1)) dX12_mayEngraveAll_8 rfl ?_
  obtain ⟨b1, H⟩ := wp_g H
  refine ar_iald dX12_mayEngraveAll_9 rfl (ok_M rfl) (ib_in b1) ?_
  refine ar_ic_ge 24 dX12_mayEngraveAll_10 (by decide) (fun c1 => ?_) (fun c1 => ?_)
  · replace H := wp_t c1 H
    refine ar_iconst (iI (0)) dX12_mayEngraveAll_24 rfl ?_
    replace H := wp_s H
    exact ar_iret dX12_mayEngraveAll_25 rfl rfl H
  · replace H := wp_f c1 H
    refine rl_a0 dX12_mayEngraveAll_13 ?_
    obtain ⟨a2, e2, H⟩ := wp_b H
    refine rc_V0i dX12_mayEngraveAll_14 ml_X12_446 mc_X12_mayEngrave (c_X12_mayEngrave e2) rfl rfl rfl (ok_M rfl) rfl rfl rfl ?_
    refine ar_if_eq 24 dX12_mayEngraveAll_17 (by decide) (fun c2 => ?_) (fun c2 => ?_)
    · replace H := wp_t c2 H
      refine ar_iconst (iI (0)) dX12_mayEngraveAll_24 rfl ?_
      replace H := wp_s H
      exact ar_iret dX12_mayEngraveAll_25 rfl rfl H
    · replace H := wp_f c2 H
      refine ar_iconst (iI (1)) dX12_mayEngraveAll_20 rfl ?_
      refine ar_goto 25 dX12_mayEngraveAll_21 (by decide) ?_
      replace H := wp_s H
      exact ar_iret dX12_mayEngraveAll_25 rfl rfl H
noncomputable def f_X12_engraveAll  (h : am_H) : Option (Int32 × am_H) :=
  (f_X12_mayEngraveAll h).bind (fun a1 => (f_X12_goes a1 h).bind (fun a2 => if a2.1 = 0 then (some (((iI (0)), a2.2))) else ((f_X12_laysAside a2.2).bind (fun a3 => (f_X12_engravesAll (iI (40)) a3).bind (fun a4 => (f_X12_kept a4.1 a4.2).bind (fun a5 => some ((a5.1, a5.2))))))))
theorem c_X12_engraveAll  {h : am_H} {a : Int32 × am_H} (e : f_X12_engraveAll h = some a) : am_Mi yX12_engraveAll cX12_engraveAll 1 (some .int) 9 198 [am_r (.inl 0) 0] h a.1 a.2 := by
  refine am_M.ofi (A := [some (am_r (.inl 0) 0)]) (by decide +kernel) rfl (ble rfl) (fun Q hQ => ?_)
  have H : wp (f_X12_engraveAll h) (fun a => Q (some (am_i a.1)) a.2) := ⟨a, e, hQ⟩
  unfold f_X12_engraveAll at H
  refine rl_a0 dX12_engraveAll_0 ?_
  refine rl_a0 dX12_engraveAll_1 ?_
  obtain ⟨a1, e1, H⟩ := wp_b H
  refine rc_V0i dX12_engraveAll_2 ml_X12_452 mc_X12_mayEngraveAll (c_X12_mayEngraveAll e1) rfl rfl rfl (ok_M rfl) rfl rfl rfl ?_
  obtain ⟨a2, e2, H⟩ := wp_b H
  refine rc_V1i dX12_engraveAll_5 ml_X12_82 mc_X12_goes (c_X12_goes e2) rfl rfl rfl (ok_M rfl) rfl rfl rfl ?_
  refine ar_if_ne 13 dX12_engraveAll_8 (by decide) (fun c1 => ?_) (fun c1 => ?_)
  · replace H := wp_f c1 H
    refine rl_a0 dX12_engraveAll_13 ?_
    obtain ⟨a3, e3, H⟩ := wp_b H
    refine rc_V0v dX12_engraveAll_14 ml_X12_247 mc_X12_laysAside (c_X12_laysAside e3) rfl rfl rfl (ok_M rfl) rfl rfl rfl ?_
    refine rl_a0 dX12_engraveAll_17 ?_
    refine rl_a0 dX12_engraveAll_18 ?_
    refine ar_bipush (iI (40)) dX12_engraveAll_19 rfl ?_
    obtain ⟨a4, e4, H⟩ := wp_b H
    refine rc_V1i dX12_engraveAll_21 ml_X12_404 mc_X12_engravesAll (c_X12_engravesAll e4) rfl rfl rfl (ok_M rfl) rfl rfl rfl ?_
    obtain ⟨a5, e5, H⟩ := wp_b H
    refine rc_V1i dX12_engraveAll_24 ml_X12_449 mc_X12_kept (c_X12_kept e5) rfl rfl rfl (ok_M rfl) rfl rfl rfl ?_
    replace H := wp_s H
    exact ar_iret dX12_engraveAll_27 rfl rfl H
  · replace H := wp_t c1 H
    refine ar_iconst (iI (0)) dX12_engraveAll_11 rfl ?_
    replace H := wp_s H
    exact ar_iret dX12_engraveAll_12 rfl rfl H
noncomputable def f_X12_mayMend (x1 : Int32) (h : am_H) : Option Int32 :=
  (f_X12_ofLetter x1 (iI (2)) h).bind (fun a1 => if (iI (3)) ≤ a1 then (some ((iI (0)))) else (some ((iI (1)))))
theorem c_X12_mayMend {x1 : Int32} {h : am_H} {a : Int32} (e : f_X12_mayMend x1 h = some a) : am_Mi yX12_mayMend cX12_mayMend 2 (some .boolean) 1 22 [am_r (.inl 0) 0, am_i x1] h a h := by
  refine am_M.ofi (A := [some (am_r (.inl 0) 0), some (am_i x1)]) (by decide +kernel) rfl (ble rfl) (fun Q hQ => ?_)
  have H : wp (f_X12_mayMend x1 h) (fun a => Q (some (am_i a)) h) := ⟨a, e, hQ⟩
  unfold f_X12_mayMend at H
  refine rl_a0 dX12_mayMend_0 ?_
  refine rl_i1 dX12_mayMend_1 ?_
  refine ar_iconst (iI (2)) dX12_mayMend_2 rfl ?_
  obtain ⟨a1, e1, H⟩ := wp_b H
  refine rc_V2i dX12_mayMend_3 ml_X12_280 mc_X12_ofLetter (c_X12_ofLetter e1) rfl rfl rfl (ok_M rfl) rfl rfl rfl ?_
  refine ar_iconst (iI (3)) dX12_mayMend_6 rfl ?_
  refine ar_ic_ge 14 dX12_mayMend_7 (by decide) (fun c1 => ?_) (fun c1 => ?_)
  · replace H := wp_t c1 H
    refine ar_iconst (iI (0)) dX12_mayMend_14 rfl ?_
    replace H := wp_s H
    exact ar_iret dX12_mayMend_15 rfl rfl H
  · replace H := wp_f c1 H
    refine ar_iconst (iI (1)) dX12_mayMend_10 rfl ?_
    refine ar_goto 15 dX12_mayMend_11 (by decide) ?_
    replace H := wp_s H
    exact ar_iret dX12_mayMend_15 rfl rfl H
noncomputable def f_X12_countsMend (x1 : Int32) (h : am_H) : Option am_H :=
  (f_X12_ofLetter x1 (iI (2)) h).bind (fun a1 => (f_X12_setsLetter x1 (iI (2)) (a1 + (iI (1))) h).bind (fun a2 => some (a2)))
theorem c_X12_countsMend {x1 : Int32} {h : am_H} {a : am_H} (e : f_X12_countsMend x1 h = some a) : am_Mv yX12_countsMend cX12_countsMend 2 (none) 1 23 [am_r (.inl 0) 0, am_i x1] h a := by
  refine am_M.ofv (A := [some (am_r (.inl 0) 0), some (am_i x1)]) (by decide +kernel) rfl (ble rfl) (fun Q hQ => ?_)
  have H : wp (f_X12_countsMend x1 h) (fun a => Q none a) := ⟨a, e, hQ⟩
  unfold f_X12_countsMend at H
  refine rl_a0 dX12_countsMend_0 ?_
  refine rl_i1 dX12_countsMend_1 ?_
  refine ar_iconst (iI (2)) dX12_countsMend_2 rfl ?_
  refine rl_a0 dX12_countsMend_3 ?_
  refine rl_i1 dX12_countsMend_4 ?_
  refine ar_iconst (iI (2)) dX12_countsMend_5 rfl ?_
  obtain ⟨a1, e1, H⟩ := wp_b H
  refine rc_V2i dX12_countsMend_6 ml_X12_280 mc_X12_ofLetter (c_X12_ofLetter e1) rfl rfl rfl (ok_M rfl) rfl rfl rfl ?_
  refine ar_iconst (iI (1)) dX12_countsMend_9 rfl ?_
  refine ar_iadd dX12_countsMend_10 ?_
  obtain ⟨a2, e2, H⟩ := wp_b H
  refine rc_V3v dX12_countsMend_11 ml_X12_189 mc_X12_setsLetter (c_X12_setsLetter e2) rfl rfl rfl (ok_M rfl) rfl rfl rfl ?_
  replace H := wp_s H
  exact ar_vret dX12_countsMend_14 rfl H
noncomputable def f_X12_mayMendScratch (x1 : Int32) (h : am_H) : Option Int32 :=
  (f_X12_ofScratch x1 (iI (0)) h).bind (fun a1 => (f_X12_mayMend a1 h).bind (fun a2 => if zb a2 then (some (a2)) else none))
theorem c_X12_mayMendScratch {x1 : Int32} {h : am_H} {a : Int32} (e : f_X12_mayMendScratch x1 h = some a) : am_Mi yX12_mayMendScratch cX12_mayMendScratch 2 (some .boolean) 2 43 [am_r (.inl 0) 0, am_i x1] h a h := by
  refine am_M.ofi (A := [some (am_r (.inl 0) 0), some (am_i x1)]) (by decide +kernel) rfl (ble rfl) (fun Q hQ => ?_)
  have H : wp (f_X12_mayMendScratch x1 h) (fun a => Q (some (am_i a)) h) := ⟨a, e, hQ⟩
  unfold f_X12_mayMendScratch at H
  refine rl_a0 dX12_mayMendScratch_0 ?_
  refine rl_a0 dX12_mayMendScratch_1 ?_
  refine rl_i1 dX12_mayMendScratch_2 ?_
  refine ar_iconst (iI (0)) dX12_mayMendScratch_3 rfl ?_
  obtain ⟨a1, e1, H⟩ := wp_b H
  refine rc_V2i dX12_mayMendScratch_4 ml_X12_316 mc_X12_ofScratch (c_X12_ofScratch e1) rfl rfl rfl (ok_M rfl) rfl rfl rfl ?_
  obtain ⟨a2, e2, H⟩ := wp_b H
  refine rc_V1i dX12_mayMendScratch_7 ml_X12_455 mc_X12_mayMend (c_X12_mayMend e2) rfl rfl rfl (ok_M rfl) rfl rfl rfl ?_
  obtain ⟨b1, H⟩ := wp_g H
  replace H := wp_s H
  exact ar_iret dX12_mayMendScratch_10 rfl (zb_n b1) H
noncomputable def f_X12_mends (x1 : Int32) (h : am_H) : Option (Int32 × am_H) :=
  (f_X12_ofScratch x1 (iI (0)) h).bind (fun a1 => (f_X12_countsMend a1 h).bind (fun a2 => (f_X12_dropsScratch x1 a2).bind (fun a3 => if ib (iI (8)) 408 then (some (((a3.1 (.inl 0) 2 ((iI (8))).toNatClampNeg), a3))) else none)))
theorem c_X12_mends {x1 : Int32} {h : am_H} {a : Int32 × am_H} (e : f_X12_mends x1 h = some a) : am_Mi yX12_mends cX12_mends 2 (some .int) 2 44 [am_r (.inl 0) 0, am_i x1] h a.1 a.2 := by
  refine am_M.ofi (A := [some (am_r (.inl 0) 0), some (am_i x1)]) (by decide +kernel) rfl (ble rfl) (fun Q hQ => ?_)
  have H : wp (f_X12_mends x1 h) (fun a => Q (some (am_i a.1)) a.2) := ⟨a, e, hQ⟩
  unfold f_X12_mends at H
  refine rl_a0 dX12_mends_0 ?_
  refine rl_a0 dX12_mends_1 ?_
  refine rl_i1 dX12_mends_2 ?_
  refine ar_iconst (iI (0)) dX12_mends_3 rfl ?_
  obtain ⟨a1, e1, H⟩ := wp_b H
  refine rc_V2i dX12_mends_4 ml_X12_316 mc_X12_ofScratch (c_X12_ofScratch e1) rfl rfl rfl (ok_M rfl) rfl rfl rfl ?_
  obtain ⟨a2, e2, H⟩ := wp_b H
  refine rc_V1v dX12_mends_7 ml_X12_458 mc_X12_countsMend (c_X12_countsMend e2) rfl rfl rfl (ok_M rfl) rfl rfl rfl ?_
  refine rl_a0 dX12_mends_10 ?_
  refine rl_i1 dX12_mends_11 ?_
  obtain ⟨a3, e3, H⟩ := wp_b H
  refine rc_V1v dX12_mends_12 ml_X12_461 mc_X12_dropsScratch (c_X12_dropsScratch e3) rfl rfl rfl (ok_M rfl) rfl rfl rfl ?_
  refine rl_a0 dX12_mends_15 ?_
  refine rg_R (.inl 0) 2 dX12_mends_16 fg_X12_20 rfl rfl rfl (ok_M rfl) ?_
  refine ar_bipush (iI (8)) dX12_mends_19 rfl ?_
  obtain ⟨b1, H⟩ := wp_g H
  refine ar_iald dX12_mends_21 rfl (ok_M rfl) (ib_in b1) ?_
  replace H := wp_s H
  exact ar_iret dX12_mends_22 rfl rfl H
noncomputable def f_X12_mend_25  (x1 : Int32) (y1 : Int32) (y2 : Int32) (h : am_H) : Option (Int32 × am_H) :=
  (f_X12_goesBoth y1 y2 h).bind (fun a1 => if a1.1 = 0 then (some (((iI (0)), a1.2))) else ((f_X12_laysAside a1.2).bind (fun a2 => (f_X12_mends x1 a2).bind (fun a3 => (f_X12_kept a3.1 a3.2).bind (fun a4 => some ((a4.1, a4.2)))))))
noncomputable def f_X12_mend (x1 : Int32) (h : am_H) : Option (Int32 × am_H) :=
  (f_X12_isScratch x1 h).bind (fun a1 => if a1 = 0 then (f_X12_mend_25 x1 a1 (iI (0)) h) else ((f_X12_mayMendScratch x1 h).bind (fun a2 => if a2 = 0 then (f_X12_mend_25 x1 a1 (iI (0)) h) else (f_X12_mend_25 x1 a1 (iI (1)) h))))
theorem c_X12_mend_25  {x1 : Int32} {y1 : Int32} {y2 : Int32} {h : am_H} {Q : Option am_v → am_H → Prop} (H : wp (f_X12_mend_25 x1 y1 y2 h) (fun a => Q (some (am_i a.1)) a.2)) : am_V RX12 cX12_mend 3 (some .int) 3 66 0 0 none (am_Tm cX12_mend (some .int) Q) 0 0 25 [some (am_r (.inl 0) 0), some (am_i x1), none] [am_i y2, am_i y1, am_r (.inl 0) 0] h := by
  unfold f_X12_mend_25 at H
  obtain ⟨a1, e1, H⟩ := wp_b H
  refine rc_V2i dX12_mend_25 ml_X12_360 mc_X12_goesBoth (c_X12_goesBoth e1) rfl rfl rfl (ok_M rfl) rfl rfl rfl ?_
  refine ar_if_ne 33 dX12_mend_28 (by decide) (fun c1 => ?_) (fun c1 => ?_)
  · replace H := wp_f c1 H
    refine rl_a0 dX12_mend_33 ?_
    obtain ⟨a2, e2, H⟩ := wp_b H
    refine rc_V0v dX12_mend_34 ml_X12_247 mc_X12_laysAside (c_X12_laysAside e2) rfl rfl rfl (ok_M rfl) rfl rfl rfl ?_
    refine rl_a0 dX12_mend_37 ?_
    refine rl_a0 dX12_mend_38 ?_
    refine rl_i1 dX12_mend_39 ?_
    obtain ⟨a3, e3, H⟩ := wp_b H
    refine rc_V1i dX12_mend_40 ml_X12_467 mc_X12_mends (c_X12_mends e3) rfl rfl rfl (ok_M rfl) rfl rfl rfl ?_
    obtain ⟨a4, e4, H⟩ := wp_b H
    refine rc_V1i dX12_mend_43 ml_X12_449 mc_X12_kept (c_X12_kept e4) rfl rfl rfl (ok_M rfl) rfl rfl rfl ?_
    replace H := wp_s H
    exact ar_iret dX12_mend_46 rfl rfl H
  · replace H := wp_t c1 H
    refine ar_iconst (iI (0)) dX12_mend_31 rfl ?_
    replace H := wp_s H
    exact ar_iret dX12_mend_32 rfl rfl H
theorem c_X12_mend {x1 : Int32} {h : am_H} {a : Int32 × am_H} (e : f_X12_mend x1 h = some a) : am_Mi yX12_mend cX12_mend 3 (some .int) 3 66 [am_r (.inl 0) 0, am_i x1] h a.1 a.2 := by
  refine am_M.ofi (A := [some (am_r (.inl 0) 0), some (am_i x1), none]) (by decide +kernel) rfl (ble rfl) (fun Q hQ => ?_)
  have H : wp (f_X12_mend x1 h) (fun a => Q (some (am_i a.1)) a.2) := ⟨a, e, hQ⟩
  unfold f_X12_mend at H
  refine rl_a0 dX12_mend_0 ?_
  refine rl_i1 dX12_mend_1 ?_
  obtain ⟨a1, e1, H⟩ := wp_b H
  refine rc_V1i dX12_mend_2 ml_X12_378 mc_X12_isScratch (c_X12_isScratch e1) rfl rfl rfl (ok_M rfl) rfl rfl rfl ?_
  refine rs_i2 dX12_mend_5 rfl trivial ?_
  refine rl_a0 dX12_mend_6 ?_
  refine rl_i2 dX12_mend_7 ?_
  refine rl_i2 dX12_mend_8 ?_
  refine ar_if_eq 24 dX12_mend_9 (by decide) (fun c1 => ?_) (fun c1 => ?_)
  · replace H := wp_t c1 H
    refine ar_iconst (iI (0)) dX12_mend_24 rfl ?_
    exact am_V.wk (am_s (am_s (am_n am_0))) (c_X12_mend_25  H)
  · replace H := wp_f c1 H
    refine rl_a0 dX12_mend_12 ?_
    refine rl_i1 dX12_mend_13 ?_
    obtain ⟨a2, e2, H⟩ := wp_b H
    refine rc_V1i dX12_mend_14 ml_X12_464 mc_X12_mayMendScratch (c_X12_mayMendScratch e2) rfl rfl rfl (ok_M rfl) rfl rfl rfl ?_
    refine ar_if_eq 24 dX12_mend_17 (by decide) (fun c2 => ?_) (fun c2 => ?_)
    · replace H := wp_t c2 H
      refine ar_iconst (iI (0)) dX12_mend_24 rfl ?_
      exact am_V.wk (am_s (am_s (am_n am_0))) (c_X12_mend_25  H)
    · replace H := wp_f c2 H
      refine ar_iconst (iI (1)) dX12_mend_20 rfl ?_
      refine ar_goto 25 dX12_mend_21 (by decide) ?_
      exact am_V.wk (am_s (am_s (am_n am_0))) (c_X12_mend_25  H)
noncomputable def f_X12_mayPolish (x1 : Int32) (h : am_H) : Option Int32 :=
  (f_X12_isPlanned x1 h).bind (fun a1 => if a1 = 0 then ((f_X12_mayMend x1 h).bind (fun a2 => if a2 = 0 then (some ((iI (0)))) else (some ((iI (1)))))) else (some ((iI (0)))))
theorem c_X12_mayPolish {x1 : Int32} {h : am_H} {a : Int32} (e : f_X12_mayPolish x1 h = some a) : am_Mi yX12_mayPolish cX12_mayPolish 2 (some .boolean) 2 43 [am_r (.inl 0) 0, am_i x1] h a h := by
  refine am_M.ofi (A := [some (am_r (.inl 0) 0), some (am_i x1)]) (by decide +kernel) rfl (ble rfl) (fun Q hQ => ?_)
  have H : wp (f_X12_mayPolish x1 h) (fun a => Q (some (am_i a)) h) := ⟨a, e, hQ⟩
  unfold f_X12_mayPolish at H
  refine rl_a0 dX12_mayPolish_0 ?_
  refine rl_i1 dX12_mayPolish_1 ?_
  obtain ⟨a1, e1, H⟩ := wp_b H
  refine rc_V1i dX12_mayPolish_2 ml_X12_443 mc_X12_isPlanned (c_X12_isPlanned e1) rfl rfl rfl (ok_M rfl) rfl rfl rfl ?_
  refine ar_if_ne 20 dX12_mayPolish_5 (by decide) (fun c1 => ?_) (fun c1 => ?_)
  · replace H := wp_f c1 H
    refine ar_iconst (iI (0)) dX12_mayPolish_20 rfl ?_
    replace H := wp_s H
    exact ar_iret dX12_mayPolish_21 rfl rfl H
  · replace H := wp_t c1 H
    refine rl_a0 dX12_mayPolish_8 ?_
    refine rl_i1 dX12_mayPolish_9 ?_
    obtain ⟨a2, e2, H⟩ := wp_b H
    refine rc_V1i dX12_mayPolish_10 ml_X12_455 mc_X12_mayMend (c_X12_mayMend e2) rfl rfl rfl (ok_M rfl) rfl rfl rfl ?_
    refine ar_if_eq 20 dX12_mayPolish_13 (by decide) (fun c2 => ?_) (fun c2 => ?_)
    · replace H := wp_t c2 H
      refine ar_iconst (iI (0)) dX12_mayPolish_20 rfl ?_
      replace H := wp_s H
      exact ar_iret dX12_mayPolish_21 rfl rfl H
    · replace H := wp_f c2 H
      refine ar_iconst (iI (1)) dX12_mayPolish_16 rfl ?_
      refine ar_goto 21 dX12_mayPolish_17 (by decide) ?_
      replace H := wp_s H
      exact ar_iret dX12_mayPolish_21 rfl rfl H
noncomputable def s_X12_polishes  : am_S am_H → Option (am_S am_H ⊕ (Int32 × am_H)) := fun s => match s with
  | (12, [x1, x2, x3], [], [], h) => if x3 < 0 then ((f_X12_setsLetter x1 (iI (1)) (iI (0)) h).bind (fun a1 => (f_X12_countsMend x1 a1).bind (fun a2 => if ib (iI (8)) 408 then (some (.inr (((x2 - (a2.1 (.inl 0) 2 ((iI (8))).toNatClampNeg)), a2)))) else none))) else ((f_X12_ofScratch x3 (iI (0)) h).bind (fun a1 => if a1 = x1 then ((f_X12_dropsScratch x3 h).bind (fun a2 => some (.inl (12, [x1, x2, (x3 + iI (-1))], [], [], a2)))) else (some (.inl (12, [x1, x2, (x3 + iI (-1))], [], [], h)))))
  | _ => none
noncomputable def f_X12_polishes_12  (x1 : Int32) (x2 : Int32) (x3 : Int32) (h : am_H) : Option (Int32 × am_H) := lp (s_X12_polishes) (12, [x1, x2, x3], [], [], h)
theorem e_X12_polishes_12  (x1 : Int32) (x2 : Int32) (x3 : Int32) (h : am_H) : f_X12_polishes_12 x1 x2 x3 h = (if x3 < 0 then ((f_X12_setsLetter x1 (iI (1)) (iI (0)) h).bind (fun a1 => (f_X12_countsMend x1 a1).bind (fun a2 => if ib (iI (8)) 408 then (some (((x2 - (a2.1 (.inl 0) 2 ((iI (8))).toNatClampNeg)), a2))) else none))) else ((f_X12_ofScratch x3 (iI (0)) h).bind (fun a1 => if a1 = x1 then ((f_X12_dropsScratch x3 h).bind (fun a2 => f_X12_polishes_12 x1 x2 (x3 + iI (-1)) a2)) else (f_X12_polishes_12 x1 x2 (x3 + iI (-1)) h)))) := by
  show lp _ _ = _
  rw [lp_eq, s_X12_polishes]
  simp only [lpk_i, lpk_b, lpk_l, lpk_n, lpk_j, lpk_r] <;> rfl
noncomputable def f_X12_polishes (x1 : Int32) (h : am_H) : Option (Int32 × am_H) :=
  if ib (iI (8)) 408 then (f_X12_polishes_12 x1 (h.1 (.inl 0) 2 ((iI (8))).toNatClampNeg) ((h.1 (.inl 0) 2 ((iI (8))).toNatClampNeg) - (iI (1))) h) else none
theorem c_X12_polishes_L  {Q : Option am_v → am_H → Prop} : ∀ s, wp (lp (s_X12_polishes) s) (fun a => Q (some (am_i a.1)) a.2) → ((∀ x1 x2 x3 h, s = (12, [x1, x2, x3], [], [], h) → am_V RX12 cX12_polishes 4 (some .int) 2 44 0 0 none (am_Tm cX12_polishes (some .int) Q) 0 0 12 [some (am_r (.inl 0) 0), some (am_i x1), some (am_i x2), some (am_i x3)] [] h)) := by
  refine lp_ind _ _ (fun s H => fun x1 x2 x3 h e => ?_)
  · subst e
    rw [s_X12_polishes] at H
    refine rl_i3 dX12_polishes_12 ?_
    refine ar_if_lt 37 dX12_polishes_13 (by decide) (fun c1 => ?_) (fun c1 => ?_)
    · replace H := wp_t c1 H
      refine rl_a0 dX12_polishes_37 ?_
      refine rl_i1 dX12_polishes_38 ?_
      refine ar_iconst (iI (1)) dX12_polishes_39 rfl ?_
      refine ar_iconst (iI (0)) dX12_polishes_40 rfl ?_
      obtain ⟨a1, e1, H⟩ := wp_b H
      refine rc_V3v dX12_polishes_41 ml_X12_189 mc_X12_setsLetter (c_X12_setsLetter e1) rfl rfl rfl (ok_M rfl) rfl rfl rfl ?_
      refine rl_a0 dX12_polishes_44 ?_
      refine rl_i1 dX12_polishes_45 ?_
      obtain ⟨a2, e2, H⟩ := wp_b H
      refine rc_V1v dX12_polishes_46 ml_X12_458 mc_X12_countsMend (c_X12_countsMend e2) rfl rfl rfl (ok_M rfl) rfl rfl rfl ?_
      refine rl_i2 dX12_polishes_49 ?_
      refine rl_a0 dX12_polishes_50 ?_
      refine rg_R (.inl 0) 2 dX12_polishes_51 fg_X12_20 rfl rfl rfl (ok_M rfl) ?_
      refine ar_bipush (iI (8)) dX12_polishes_54 rfl ?_
      obtain ⟨b1, H⟩ := wp_g H
      refine ar_iald dX12_polishes_56 rfl (ok_M rfl) (ib_in b1) ?_
      refine ar_isub dX12_polishes_57 ?_
      replace H := lp_re H
      exact ar_iret dX12_polishes_58 rfl rfl H
    · replace H := wp_f c1 H
      refine rl_a0 dX12_polishes_16 ?_
      refine rl_i3 dX12_polishes_17 ?_
      refine ar_iconst (iI (0)) dX12_polishes_18 rfl ?_
      obtain ⟨a1, e1, H⟩ := wp_b H
      refine rc_V2i dX12_polishes_19 ml_X12_316 mc_X12_ofScratch (c_X12_ofScratch e1) rfl rfl rfl (ok_M rfl) rfl rfl rfl ?_
      refine rl_i1 dX12_polishes_22 ?_
      refine ar_ic_ne 31 dX12_polishes_23 (by decide) (fun c2 => ?_) (fun c2 => ?_)
      · replace H := wp_f c2 H
        refine rn_m_3 (v := x3 + iI (-1)) dX12_polishes_31 rfl trivial rfl ?_
        refine ar_goto 12 dX12_polishes_34 (by decide) ?_
        exact am_V.wk (am_s (am_s (am_s (am_s am_0)))) ((lp_in H) _ _ _ _ rfl)
      · replace H := wp_t c2 H
        refine rl_a0 dX12_polishes_26 ?_
        refine rl_i3 dX12_polishes_27 ?_
        obtain ⟨a2, e2, H⟩ := wp_b H
        refine rc_V1v dX12_polishes_28 ml_X12_461 mc_X12_dropsScratch (c_X12_dropsScratch e2) rfl rfl rfl (ok_M rfl) rfl rfl rfl ?_
        refine rn_m_3 (v := x3 + iI (-1)) dX12_polishes_31 rfl trivial rfl ?_
        refine ar_goto 12 dX12_polishes_34 (by decide) ?_
        exact am_V.wk (am_s (am_s (am_s (am_s am_0)))) ((lp_in H) _ _ _ _ rfl)
theorem c_X12_polishes {x1 : Int32} {h : am_H} {a : Int32 × am_H} (e : f_X12_polishes x1 h = some a) : am_Mi yX12_polishes cX12_polishes 4 (some .int) 2 44 [am_r (.inl 0) 0, am_i x1] h a.1 a.2 := by
  refine am_M.ofi (A := [some (am_r (.inl 0) 0), some (am_i x1), none, none]) (by decide +kernel) rfl (ble rfl) (fun Q hQ => ?_)
  have H : wp (f_X12_polishes x1 h) (fun a => Q (some (am_i a.1)) a.2) := ⟨a, e, hQ⟩
  unfold f_X12_polishes at H
  refine rl_a0 dX12_polishes_0 ?_
  refine rg_R (.inl 0) 2 dX12_polishes_1 fg_X12_20 rfl rfl rfl (ok_M rfl) ?_
  refine ar_bipush (iI (8)) dX12_polishes_4 rfl ?_
  obtain ⟨b1, H⟩ := wp_g H
  refine ar_iald dX12_polishes_6 rfl (ok_M rfl) (ib_in b1) ?_
  refine rs_i2 dX12_polishes_7 rfl trivial ?_
  refine rl_i2 dX12_polishes_8 ?_
  refine ar_iconst (iI (1)) dX12_polishes_9 rfl ?_
  refine ar_isub dX12_polishes_10 ?_
  refine rs_i3 dX12_polishes_11 rfl trivial ?_
  exact am_V.wk (am_s (am_s (am_s (am_s am_0)))) ((c_X12_polishes_L  _ H) _ _ _ _ rfl)
noncomputable def f_X12_polish_25  (x1 : Int32) (y1 : Int32) (y2 : Int32) (h : am_H) : Option (Int32 × am_H) :=
  (f_X12_goesBoth y1 y2 h).bind (fun a1 => if a1.1 = 0 then (some (((iI (0)), a1.2))) else ((f_X12_laysAside a1.2).bind (fun a2 => (f_X12_polishes x1 a2).bind (fun a3 => (f_X12_kept a3.1 a3.2).bind (fun a4 => some ((a4.1, a4.2)))))))
noncomputable def f_X12_polish (x1 : Int32) (h : am_H) : Option (Int32 × am_H) :=
  (f_X12_isLetter0 x1 h).bind (fun a1 => if a1 = 0 then (f_X12_polish_25 x1 a1 (iI (0)) h) else ((f_X12_mayPolish x1 h).bind (fun a2 => if a2 = 0 then (f_X12_polish_25 x1 a1 (iI (0)) h) else (f_X12_polish_25 x1 a1 (iI (1)) h))))
theorem c_X12_polish_25  {x1 : Int32} {y1 : Int32} {y2 : Int32} {h : am_H} {Q : Option am_v → am_H → Prop} (H : wp (f_X12_polish_25 x1 y1 y2 h) (fun a => Q (some (am_i a.1)) a.2)) : am_V RX12 cX12_polish 3 (some .int) 3 67 0 0 none (am_Tm cX12_polish (some .int) Q) 0 0 25 [some (am_r (.inl 0) 0), some (am_i x1), none] [am_i y2, am_i y1, am_r (.inl 0) 0] h := by
  unfold f_X12_polish_25 at H
  obtain ⟨a1, e1, H⟩ := wp_b H
  refine rc_V2i dX12_polish_25 ml_X12_360 mc_X12_goesBoth (c_X12_goesBoth e1) rfl rfl rfl (ok_M rfl) rfl rfl rfl ?_
  refine ar_if_ne 33 dX12_polish_28 (by decide) (fun c1 => ?_) (fun c1 => ?_)
  · replace H := wp_f c1 H
    refine rl_a0 dX12_polish_33 ?_
    obtain ⟨a2, e2, H⟩ := wp_b H
    refine rc_V0v dX12_polish_34 ml_X12_247 mc_X12_laysAside (c_X12_laysAside e2) rfl rfl rfl (ok_M rfl) rfl rfl rfl ?_
    refine rl_a0 dX12_polish_37 ?_
    refine rl_a0 dX12_polish_38 ?_
    refine rl_i1 dX12_polish_39 ?_
    obtain ⟨a3, e3, H⟩ := wp_b H
    refine rc_V1i dX12_polish_40 ml_X12_473 mc_X12_polishes (c_X12_polishes e3) rfl rfl rfl (ok_M rfl) rfl rfl rfl ?_
    obtain ⟨a4, e4, H⟩ := wp_b H
    refine rc_V1i dX12_polish_43 ml_X12_449 mc_X12_kept (c_X12_kept e4) rfl rfl rfl (ok_M rfl) rfl rfl rfl ?_
    replace H := wp_s H
    exact ar_iret dX12_polish_46 rfl rfl H
  · replace H := wp_t c1 H
    refine ar_iconst (iI (0)) dX12_polish_31 rfl ?_
    replace H := wp_s H
    exact ar_iret dX12_polish_32 rfl rfl H
theorem c_X12_polish {x1 : Int32} {h : am_H} {a : Int32 × am_H} (e : f_X12_polish x1 h = some a) : am_Mi yX12_polish cX12_polish 3 (some .int) 3 67 [am_r (.inl 0) 0, am_i x1] h a.1 a.2 := by
  refine am_M.ofi (A := [some (am_r (.inl 0) 0), some (am_i x1), none]) (by decide +kernel) rfl (ble rfl) (fun Q hQ => ?_)
  have H : wp (f_X12_polish x1 h) (fun a => Q (some (am_i a.1)) a.2) := ⟨a, e, hQ⟩
  unfold f_X12_polish at H
  refine rl_a0 dX12_polish_0 ?_
  refine rl_i1 dX12_polish_1 ?_
  obtain ⟨a1, e1, H⟩ := wp_b H
  refine rc_V1i dX12_polish_2 ml_X12_367 mc_X12_isLetter0 (c_X12_isLetter0 e1) rfl rfl rfl (ok_M rfl) rfl rfl rfl ?_
  refine rs_i2 dX12_polish_5 rfl trivial ?_
  refine rl_a0 dX12_polish_6 ?_
  refine rl_i2 dX12_polish_7 ?_
  refine rl_i2 dX12_polish_8 ?_
  refine ar_if_eq 24 dX12_polish_9 (by decide) (fun c1 => ?_) (fun c1 => ?_)
  · replace H := wp_t c1 H
    refine ar_iconst (iI (0)) dX12_polish_24 rfl ?_
    exact am_V.wk (am_s (am_s (am_n am_0))) (c_X12_polish_25  H)
  · replace H := wp_f c1 H
    refine rl_a0 dX12_polish_12 ?_
    refine rl_i1 dX12_polish_13 ?_
    obtain ⟨a2, e2, H⟩ := wp_b H
    refine rc_V1i dX12_polish_14 ml_X12_470 mc_X12_mayPolish (c_X12_mayPolish e2) rfl rfl rfl (ok_M rfl) rfl rfl rfl ?_
    refine ar_if_eq 24 dX12_polish_17 (by decide) (fun c2 => ?_) (fun c2 => ?_)
    · replace H := wp_t c2 H
      refine ar_iconst (iI (0)) dX12_polish_24 rfl ?_
      exact am_V.wk (am_s (am_s (am_n am_0))) (c_X12_polish_25  H)
    · replace H := wp_f c2 H
      refine ar_iconst (iI (1)) dX12_polish_20 rfl ?_
      refine ar_goto 25 dX12_polish_21 (by decide) ?_
      exact am_V.wk (am_s (am_s (am_n am_0))) (c_X12_polish_25  H)
noncomputable def f_X12_sharpens (x1 : Int32) (h : am_H) : Option (Int32 × am_H) :=
  if ib (iI (3)) 408 then ((f_X12_lesser (iI (99)) ((h.1 (.inl 0) 2 ((iI (3))).toNatClampNeg) + x1)).bind (fun a1 => if ib (iI (3)) 408 then (am_lt (am_u h (.inl 0) 2 (((iI (3))).toNatClampNeg) a1) (fun h1 => if ib (iI (3)) 408 then (some (((h1.1 (.inl 0) 2 ((iI (3))).toNatClampNeg), h1))) else none)) else none)) else none
theorem c_X12_sharpens {x1 : Int32} {h : am_H} {a : Int32 × am_H} (e : f_X12_sharpens x1 h = some a) : am_Mi yX12_sharpens cX12_sharpens 2 (some .int) 1 21 [am_r (.inl 0) 0, am_i x1] h a.1 a.2 := by
  refine am_M.ofi (A := [some (am_r (.inl 0) 0), some (am_i x1)]) (by decide +kernel) rfl (ble rfl) (fun Q hQ => ?_)
  have H : wp (f_X12_sharpens x1 h) (fun a => Q (some (am_i a.1)) a.2) := ⟨a, e, hQ⟩
  unfold f_X12_sharpens at H
  refine rl_a0 dX12_sharpens_0 ?_
  refine rg_R (.inl 0) 2 dX12_sharpens_1 fg_X12_20 rfl rfl rfl (ok_M rfl) ?_
  refine ar_iconst (iI (3)) dX12_sharpens_4 rfl ?_
  refine ar_bipush (iI (99)) dX12_sharpens_5 rfl ?_
  refine rl_a0 dX12_sharpens_7 ?_
  refine rg_R (.inl 0) 2 dX12_sharpens_8 fg_X12_20 rfl rfl rfl (ok_M rfl) ?_
  refine ar_iconst (iI (3)) dX12_sharpens_11 rfl ?_
  obtain ⟨b1, H⟩ := wp_g H
  refine ar_iald dX12_sharpens_12 rfl (ok_M rfl) (ib_in b1) ?_
  refine rl_i1 dX12_sharpens_13 ?_
  refine ar_iadd dX12_sharpens_14 ?_
  obtain ⟨a1, e1, H⟩ := wp_b H
  refine rc_S2i dX12_sharpens_15 ml_X12_271 mc_X12_lesser (c_X12_lesser e1) rfl rfl rfl ?_
  obtain ⟨b2, H⟩ := wp_g H
  refine ar_iast dX12_sharpens_18 rfl (ok_M rfl) (ib_in b2) ?_
  replace H := wp_l H
  generalize am_u h (.inl 0) 2 (((iI (3))).toNatClampNeg) a1 = h1 at H ⊢
  refine rl_a0 dX12_sharpens_19 ?_
  refine rg_R (.inl 0) 2 dX12_sharpens_20 fg_X12_20 rfl rfl rfl (ok_M rfl) ?_
  refine ar_iconst (iI (3)) dX12_sharpens_23 rfl ?_
  obtain ⟨b3, H⟩ := wp_g H
  refine ar_iald dX12_sharpens_24 rfl (ok_M rfl) (ib_in b3) ?_
  replace H := wp_s H
  exact ar_iret dX12_sharpens_25 rfl rfl H
noncomputable def f_X12_sharpen (x1 : Int32) (h : am_H) : Option (Int32 × am_H) :=
  (f_X12_isWidth x1).bind (fun a1 => (f_X12_goes a1 h).bind (fun a2 => if a2.1 = 0 then (some (((iI (0)), a2.2))) else ((f_X12_laysAside a2.2).bind (fun a3 => (f_X12_sharpens x1 a3).bind (fun a4 => (f_X12_kept a4.1 a4.2).bind (fun a5 => some ((a5.1, a5.2))))))))
theorem c_X12_sharpen {x1 : Int32} {h : am_H} {a : Int32 × am_H} (e : f_X12_sharpen x1 h = some a) : am_Mi yX12_sharpen cX12_sharpen 2 (some .int) 3 66 [am_r (.inl 0) 0, am_i x1] h a.1 a.2 := by
  refine am_M.ofi (A := [some (am_r (.inl 0) 0), some (am_i x1)]) (by decide +kernel) rfl (ble rfl) (fun Q hQ => ?_)
  have H : wp (f_X12_sharpen x1 h) (fun a => Q (some (am_i a.1)) a.2) := ⟨a, e, hQ⟩
  unfold f_X12_sharpen at H
  refine rl_a0 dX12_sharpen_0 ?_
  refine rl_i1 dX12_sharpen_1 ?_
  obtain ⟨a1, e1, H⟩ := wp_b H
  refine rc_S1i dX12_sharpen_2 ml_X12_476 mc_X12_isWidth (c_X12_isWidth e1) rfl rfl rfl ?_
  obtain ⟨a2, e2, H⟩ := wp_b H
  refine rc_V1i dX12_sharpen_5 ml_X12_82 mc_X12_goes (c_X12_goes e2) rfl rfl rfl (ok_M rfl) rfl rfl rfl ?_
  refine ar_if_ne 13 dX12_sharpen_8 (by decide) (fun c1 => ?_) (fun c1 => ?_)
  · replace H := wp_f c1 H
    refine rl_a0 dX12_sharpen_13 ?_
    obtain ⟨a3, e3, H⟩ := wp_b H
    refine rc_V0v dX12_sharpen_14 ml_X12_247 mc_X12_laysAside (c_X12_laysAside e3) rfl rfl rfl (ok_M rfl) rfl rfl rfl ?_
    refine rl_a0 dX12_sharpen_17 ?_
    refine rl_a0 dX12_sharpen_18 ?_
    refine rl_i1 dX12_sharpen_19 ?_
    obtain ⟨a4, e4, H⟩ := wp_b H
    refine rc_V1i dX12_sharpen_20 ml_X12_479 mc_X12_sharpens (c_X12_sharpens e4) rfl rfl rfl (ok_M rfl) rfl rfl rfl ?_
    obtain ⟨a5, e5, H⟩ := wp_b H
    refine rc_V1i dX12_sharpen_23 ml_X12_449 mc_X12_kept (c_X12_kept e5) rfl rfl rfl (ok_M rfl) rfl rfl rfl ?_
    replace H := wp_s H
    exact ar_iret dX12_sharpen_26 rfl rfl H
  · replace H := wp_t c1 H
    refine ar_iconst (iI (0)) dX12_sharpen_11 rfl ?_
    replace H := wp_s H
    exact ar_iret dX12_sharpen_12 rfl rfl H
noncomputable def f_X12_swapsCell (x1 : Int32) (x2 : Int32) (h : am_H) : Option (Int32 × am_H) :=
  if ib x1 408 then (if ib x1 408 then (am_lt (am_u h (.inl 0) 2 x1.toNatClampNeg x2) (fun h1 => some (((h.1 (.inl 0) 2 x1.toNatClampNeg), h1)))) else none) else none
theorem c_X12_swapsCell {x1 : Int32} {x2 : Int32} {h : am_H} {a : Int32 × am_H} (e : f_X12_swapsCell x1 x2 h = some a) : am_Mi yX12_swapsCell cX12_swapsCell 4 (some .int) 0 0 [am_r (.inl 0) 0, am_i x1, am_i x2] h a.1 a.2 := by
  refine am_M.ofi (A := [some (am_r (.inl 0) 0), some (am_i x1), some (am_i x2), none]) (by decide +kernel) rfl (ble rfl) (fun Q hQ => ?_)
  have H : wp (f_X12_swapsCell x1 x2 h) (fun a => Q (some (am_i a.1)) a.2) := ⟨a, e, hQ⟩
  unfold f_X12_swapsCell at H
  refine rl_a0 dX12_swapsCell_0 ?_
  refine rg_R (.inl 0) 2 dX12_swapsCell_1 fg_X12_20 rfl rfl rfl (ok_M rfl) ?_
  refine rl_i1 dX12_swapsCell_4 ?_
  obtain ⟨b1, H⟩ := wp_g H
  refine ar_iald dX12_swapsCell_5 rfl (ok_M rfl) (ib_in b1) ?_
  refine rs_i3 dX12_swapsCell_6 rfl trivial ?_
  refine rl_a0 dX12_swapsCell_7 ?_
  refine rg_R (.inl 0) 2 dX12_swapsCell_8 fg_X12_20 rfl rfl rfl (ok_M rfl) ?_
  refine rl_i1 dX12_swapsCell_11 ?_
  refine rl_i2 dX12_swapsCell_12 ?_
  obtain ⟨b2, H⟩ := wp_g H
  refine ar_iast dX12_swapsCell_13 rfl (ok_M rfl) (ib_in b2) ?_
  replace H := wp_l H
  generalize am_u h (.inl 0) 2 x1.toNatClampNeg x2 = h1 at H ⊢
  refine rl_i3 dX12_swapsCell_14 ?_
  replace H := wp_s H
  exact ar_iret dX12_swapsCell_15 rfl rfl H
noncomputable def f_X12_isMargin (x0 : Int32) : Option Int32 :=
  (f_X12_isIn x0.toInt64 (0 : Int64) (99 : Int64)).bind (fun a1 => if zb a1 then (some (a1)) else none)
theorem c_X12_isMargin {x0 : Int32} {h : am_H} {a : Int32} (e : f_X12_isMargin x0 = some a) : am_Mi yX12_isMargin cX12_isMargin 1 (some .boolean) 1 25 [am_i x0] h a h := by
  refine am_M.ofi (A := [some (am_i x0)]) (by decide +kernel) rfl (ble rfl) (fun Q hQ => ?_)
  have H : wp (f_X12_isMargin x0) (fun a => Q (some (am_i a)) h) := ⟨a, e, hQ⟩
  unfold f_X12_isMargin at H
  refine rl_i0 dX12_isMargin_0 ?_
  refine ar_i2l dX12_isMargin_1 ?_
  refine ar_lconst (0 : Int64) dX12_isMargin_2 rfl ?_
  refine ar_ldc2 (99) dX12_isMargin_3 kc_X12_421 ?_
  obtain ⟨a1, e1, H⟩ := wp_b H
  refine rc_S3i dX12_isMargin_6 ml_X12_90 mc_X12_isIn (c_X12_isIn e1) rfl rfl rfl ?_
  obtain ⟨b1, H⟩ := wp_g H
  replace H := wp_s H
  exact ar_iret dX12_isMargin_9 rfl (zb_n b1) H
noncomputable def f_X12_setMargin (x1 : Int32) (h : am_H) : Option (Int32 × am_H) :=
  (f_X12_isMargin x1).bind (fun a1 => (f_X12_goes a1 h).bind (fun a2 => if a2.1 = 0 then (some (((iI (0)), a2.2))) else ((f_X12_laysAside a2.2).bind (fun a3 => (f_X12_swapsCell (iI (4)) x1 a3).bind (fun a4 => (f_X12_kept a4.1 a4.2).bind (fun a5 => some ((a5.1, a5.2))))))))
theorem c_X12_setMargin {x1 : Int32} {h : am_H} {a : Int32 × am_H} (e : f_X12_setMargin x1 h = some a) : am_Mi yX12_setMargin cX12_setMargin 2 (some .int) 3 66 [am_r (.inl 0) 0, am_i x1] h a.1 a.2 := by
  refine am_M.ofi (A := [some (am_r (.inl 0) 0), some (am_i x1)]) (by decide +kernel) rfl (ble rfl) (fun Q hQ => ?_)
  have H : wp (f_X12_setMargin x1 h) (fun a => Q (some (am_i a.1)) a.2) := ⟨a, e, hQ⟩
  unfold f_X12_setMargin at H
  refine rl_a0 dX12_setMargin_0 ?_
  refine rl_i1 dX12_setMargin_1 ?_
  obtain ⟨a1, e1, H⟩ := wp_b H
  refine rc_S1i dX12_setMargin_2 ml_X12_482 mc_X12_isMargin (c_X12_isMargin e1) rfl rfl rfl ?_
  obtain ⟨a2, e2, H⟩ := wp_b H
  refine rc_V1i dX12_setMargin_5 ml_X12_82 mc_X12_goes (c_X12_goes e2) rfl rfl rfl (ok_M rfl) rfl rfl rfl ?_
  refine ar_if_ne 13 dX12_setMargin_8 (by decide) (fun c1 => ?_) (fun c1 => ?_)
  · replace H := wp_f c1 H
    refine rl_a0 dX12_setMargin_13 ?_
    obtain ⟨a3, e3, H⟩ := wp_b H
    refine rc_V0v dX12_setMargin_14 ml_X12_247 mc_X12_laysAside (c_X12_laysAside e3) rfl rfl rfl (ok_M rfl) rfl rfl rfl ?_
    refine rl_a0 dX12_setMargin_17 ?_
    refine rl_a0 dX12_setMargin_18 ?_
    refine ar_iconst (iI (4)) dX12_setMargin_19 rfl ?_
    refine rl_i1 dX12_setMargin_20 ?_
    obtain ⟨a4, e4, H⟩ := wp_b H
    refine rc_V2i dX12_setMargin_21 ml_X12_485 mc_X12_swapsCell (c_X12_swapsCell e4) rfl rfl rfl (ok_M rfl) rfl rfl rfl ?_
    obtain ⟨a5, e5, H⟩ := wp_b H
    refine rc_V1i dX12_setMargin_24 ml_X12_449 mc_X12_kept (c_X12_kept e5) rfl rfl rfl (ok_M rfl) rfl rfl rfl ?_
    replace H := wp_s H
    exact ar_iret dX12_setMargin_27 rfl rfl H
  · replace H := wp_t c1 H
    refine ar_iconst (iI (0)) dX12_setMargin_11 rfl ?_
    replace H := wp_s H
    exact ar_iret dX12_setMargin_12 rfl rfl H
noncomputable def f_X12_setRadius (x1 : Int32) (x2 : Int32) (h : am_H) : Option (Int32 × am_H) :=
  (f_X12_isArc x1 h).bind (fun a1 => (f_X12_isWidth x2).bind (fun a2 => (f_X12_goesBoth a1 a2 h).bind (fun a3 => if a3.1 = 0 then (some (((iI (0)), a3.2))) else ((f_X12_laysAside a3.2).bind (fun a4 => (f_X12_swapsCell (((iI (12)) + ((iI (4)) * x1)) + (iI (0))) x2 a4).bind (fun a5 => (f_X12_kept a5.1 a5.2).bind (fun a6 => some ((a6.1, a6.2)))))))))
theorem c_X12_setRadius {x1 : Int32} {x2 : Int32} {h : am_H} {a : Int32 × am_H} (e : f_X12_setRadius x1 x2 h = some a) : am_Mi yX12_setRadius cX12_setRadius 3 (some .int) 3 66 [am_r (.inl 0) 0, am_i x1, am_i x2] h a.1 a.2 := by
  refine am_M.ofi (A := [some (am_r (.inl 0) 0), some (am_i x1), some (am_i x2)]) (by decide +kernel) rfl (ble rfl) (fun Q hQ => ?_)
  have H : wp (f_X12_setRadius x1 x2 h) (fun a => Q (some (am_i a.1)) a.2) := ⟨a, e, hQ⟩
  unfold f_X12_setRadius at H
  refine rl_a0 dX12_setRadius_0 ?_
  refine rl_a0 dX12_setRadius_1 ?_
  refine rl_i1 dX12_setRadius_2 ?_
  obtain ⟨a1, e1, H⟩ := wp_b H
  refine rc_V1i dX12_setRadius_3 ml_X12_355 mc_X12_isArc (c_X12_isArc e1) rfl rfl rfl (ok_M rfl) rfl rfl rfl ?_
  refine rl_i2 dX12_setRadius_6 ?_
  obtain ⟨a2, e2, H⟩ := wp_b H
  refine rc_S1i dX12_setRadius_7 ml_X12_476 mc_X12_isWidth (c_X12_isWidth e2) rfl rfl rfl ?_
  obtain ⟨a3, e3, H⟩ := wp_b H
  refine rc_V2i dX12_setRadius_10 ml_X12_360 mc_X12_goesBoth (c_X12_goesBoth e3) rfl rfl rfl (ok_M rfl) rfl rfl rfl ?_
  refine ar_if_ne 18 dX12_setRadius_13 (by decide) (fun c1 => ?_) (fun c1 => ?_)
  · replace H := wp_f c1 H
    refine rl_a0 dX12_setRadius_18 ?_
    obtain ⟨a4, e4, H⟩ := wp_b H
    refine rc_V0v dX12_setRadius_19 ml_X12_247 mc_X12_laysAside (c_X12_laysAside e4) rfl rfl rfl (ok_M rfl) rfl rfl rfl ?_
    refine rl_a0 dX12_setRadius_22 ?_
    refine rl_a0 dX12_setRadius_23 ?_
    refine ar_bipush (iI (12)) dX12_setRadius_24 rfl ?_
    refine ar_iconst (iI (4)) dX12_setRadius_26 rfl ?_
    refine rl_i1 dX12_setRadius_27 ?_
    refine ar_imul dX12_setRadius_28 ?_
    refine ar_iadd dX12_setRadius_29 ?_
    refine ar_iconst (iI (0)) dX12_setRadius_30 rfl ?_
    refine ar_iadd dX12_setRadius_31 ?_
    refine rl_i2 dX12_setRadius_32 ?_
    obtain ⟨a5, e5, H⟩ := wp_b H
    refine rc_V2i dX12_setRadius_33 ml_X12_485 mc_X12_swapsCell (c_X12_swapsCell e5) rfl rfl rfl (ok_M rfl) rfl rfl rfl ?_
    obtain ⟨a6, e6, H⟩ := wp_b H
    refine rc_V1i dX12_setRadius_36 ml_X12_449 mc_X12_kept (c_X12_kept e6) rfl rfl rfl (ok_M rfl) rfl rfl rfl ?_
    replace H := wp_s H
    exact ar_iret dX12_setRadius_39 rfl rfl H
  · replace H := wp_t c1 H
    refine ar_iconst (iI (0)) dX12_setRadius_16 rfl ?_
    replace H := wp_s H
    exact ar_iret dX12_setRadius_17 rfl rfl H
noncomputable def f_X12_setWidth_20  (x1 : Int32) (x2 : Int32) (y1 : Int32) (h : am_H) : Option (Int32 × am_H) :=
  (f_X12_goes y1 h).bind (fun a1 => if a1.1 = 0 then (some (((iI (0)), a1.2))) else ((f_X12_laysAside a1.2).bind (fun a2 => (f_X12_swapsCell ((iI (104)) + x1) x2 a2).bind (fun a3 => (f_X12_kept a3.1 a3.2).bind (fun a4 => some ((a4.1, a4.2)))))))
noncomputable def f_X12_setWidth (x1 : Int32) (x2 : Int32) (h : am_H) : Option (Int32 × am_H) :=
  (f_X12_isPlace x1).bind (fun a1 => if a1 = 0 then (f_X12_setWidth_20 x1 x2 (iI (0)) h) else ((f_X12_isWidth x2).bind (fun a2 => if a2 = 0 then (f_X12_setWidth_20 x1 x2 (iI (0)) h) else (f_X12_setWidth_20 x1 x2 (iI (1)) h))))
theorem c_X12_setWidth_20  {x1 : Int32} {x2 : Int32} {y1 : Int32} {h : am_H} {Q : Option am_v → am_H → Prop} (H : wp (f_X12_setWidth_20 x1 x2 y1 h) (fun a => Q (some (am_i a.1)) a.2)) : am_V RX12 cX12_setWidth 3 (some .int) 3 66 0 0 none (am_Tm cX12_setWidth (some .int) Q) 0 0 20 [some (am_r (.inl 0) 0), some (am_i x1), some (am_i x2)] [am_i y1, am_r (.inl 0) 0] h := by
  unfold f_X12_setWidth_20 at H
  obtain ⟨a1, e1, H⟩ := wp_b H
  refine rc_V1i dX12_setWidth_20 ml_X12_82 mc_X12_goes (c_X12_goes e1) rfl rfl rfl (ok_M rfl) rfl rfl rfl ?_
  refine ar_if_ne 28 dX12_setWidth_23 (by decide) (fun c1 => ?_) (fun c1 => ?_)
  · replace H := wp_f c1 H
    refine rl_a0 dX12_setWidth_28 ?_
    obtain ⟨a2, e2, H⟩ := wp_b H
    refine rc_V0v dX12_setWidth_29 ml_X12_247 mc_X12_laysAside (c_X12_laysAside e2) rfl rfl rfl (ok_M rfl) rfl rfl rfl ?_
    refine rl_a0 dX12_setWidth_32 ?_
    refine rl_a0 dX12_setWidth_33 ?_
    refine ar_bipush (iI (104)) dX12_setWidth_34 rfl ?_
    refine rl_i1 dX12_setWidth_36 ?_
    refine ar_iadd dX12_setWidth_37 ?_
    refine rl_i2 dX12_setWidth_38 ?_
    obtain ⟨a3, e3, H⟩ := wp_b H
    refine rc_V2i dX12_setWidth_39 ml_X12_485 mc_X12_swapsCell (c_X12_swapsCell e3) rfl rfl rfl (ok_M rfl) rfl rfl rfl ?_
    obtain ⟨a4, e4, H⟩ := wp_b H
    refine rc_V1i dX12_setWidth_42 ml_X12_449 mc_X12_kept (c_X12_kept e4) rfl rfl rfl (ok_M rfl) rfl rfl rfl ?_
    replace H := wp_s H
    exact ar_iret dX12_setWidth_45 rfl rfl H
  · replace H := wp_t c1 H
    refine ar_iconst (iI (0)) dX12_setWidth_26 rfl ?_
    replace H := wp_s H
    exact ar_iret dX12_setWidth_27 rfl rfl H
theorem c_X12_setWidth {x1 : Int32} {x2 : Int32} {h : am_H} {a : Int32 × am_H} (e : f_X12_setWidth x1 x2 h = some a) : am_Mi yX12_setWidth cX12_setWidth 3 (some .int) 3 66 [am_r (.inl 0) 0, am_i x1, am_i x2] h a.1 a.2 := by
  refine am_M.ofi (A := [some (am_r (.inl 0) 0), some (am_i x1), some (am_i x2)]) (by decide +kernel) rfl (ble rfl) (fun Q hQ => ?_)
  have H : wp (f_X12_setWidth x1 x2 h) (fun a => Q (some (am_i a.1)) a.2) := ⟨a, e, hQ⟩
  unfold f_X12_setWidth at H
  refine rl_a0 dX12_setWidth_0 ?_
  refine rl_i1 dX12_setWidth_1 ?_
  obtain ⟨a1, e1, H⟩ := wp_b H
  refine rc_S1i dX12_setWidth_2 ml_X12_423 mc_X12_isPlace (c_X12_isPlace e1) rfl rfl rfl ?_
  refine ar_if_eq 19 dX12_setWidth_5 (by decide) (fun c1 => ?_) (fun c1 => ?_)
  · replace H := wp_t c1 H
    refine ar_iconst (iI (0)) dX12_setWidth_19 rfl ?_
    exact am_V.wk (am_s (am_s (am_s am_0))) (c_X12_setWidth_20  H)
  · replace H := wp_f c1 H
    refine rl_i2 dX12_setWidth_8 ?_
    obtain ⟨a2, e2, H⟩ := wp_b H
    refine rc_S1i dX12_setWidth_9 ml_X12_476 mc_X12_isWidth (c_X12_isWidth e2) rfl rfl rfl ?_
    refine ar_if_eq 19 dX12_setWidth_12 (by decide) (fun c2 => ?_) (fun c2 => ?_)
    · replace H := wp_t c2 H
      refine ar_iconst (iI (0)) dX12_setWidth_19 rfl ?_
      exact am_V.wk (am_s (am_s (am_s am_0))) (c_X12_setWidth_20  H)
    · replace H := wp_f c2 H
      refine ar_iconst (iI (1)) dX12_setWidth_15 rfl ?_
      refine ar_goto 20 dX12_setWidth_16 (by decide) ?_
      exact am_V.wk (am_s (am_s (am_s am_0))) (c_X12_setWidth_20  H)
noncomputable def f_X12_commandHere  (h : am_H) : Option Int32 :=
  (f_X12_isWord (5846402757 : Int64) h).bind (fun a1 => if a1 = 0 then ((f_X12_isWord (1420 : Int64) h).bind (fun a2 => if a2 = 0 then ((f_X12_isWord (431556 : Int64) h).bind (fun a3 => if a3 = 0 then ((f_X12_isWord (553002600 : Int64) h).bind (fun a4 => if a4 = 0 then ((f_X12_isWord (20671185070 : Int64) h).bind (fun a5 => if a5 = 0 then ((f_X12_isWord (437853486 : Int64) h).bind (fun a6 => if a6 = 0 then ((f_X12_isWord (609752116 : Int64) h).bind (fun a7 => if a7 = 0 then (some ((iI (-1)))) else (some ((iI (6)))))) else (some ((iI (5)))))) else (some ((iI (4)))))) else (some ((iI (3)))))) else (some ((iI (2)))))) else (some ((iI (1)))))) else (some ((iI (0)))))
theorem c_X12_commandHere  {h : am_H} {a : Int32} (e : f_X12_commandHere h = some a) : am_Mi yX12_commandHere cX12_commandHere 1 (some .int) 1 22 [am_r (.inl 0) 0] h a h := by
  refine am_M.ofi (A := [some (am_r (.inl 0) 0)]) (by decide +kernel) rfl (ble rfl) (fun Q hQ => ?_)
  have H : wp (f_X12_commandHere h) (fun a => Q (some (am_i a)) h) := ⟨a, e, hQ⟩
  unfold f_X12_commandHere at H
  refine rl_a0 dX12_commandHere_0 ?_
  refine ar_ldc2 (5846402757) dX12_commandHere_1 kc_X12_488 ?_
  obtain ⟨a1, e1, H⟩ := wp_b H
  refine rc_V1i dX12_commandHere_4 ml_X12_140 mc_X12_isWord (c_X12_isWord e1) rfl rfl rfl (ok_M rfl) rfl rfl rfl ?_
  refine ar_if_eq 12 dX12_commandHere_7 (by decide) (fun c1 => ?_) (fun c1 => ?_)
  · replace H := wp_t c1 H
    refine rl_a0 dX12_commandHere_12 ?_
    refine ar_ldc2 (1420) dX12_commandHere_13 kc_X12_490 ?_
    obtain ⟨a2, e2, H⟩ := wp_b H
    refine rc_V1i dX12_commandHere_16 ml_X12_140 mc_X12_isWord (c_X12_isWord e2) rfl rfl rfl (ok_M rfl) rfl rfl rfl ?_
    refine ar_if_eq 24 dX12_commandHere_19 (by decide) (fun c2 => ?_) (fun c2 => ?_)
    · replace H := wp_t c2 H
      refine rl_a0 dX12_commandHere_24 ?_
      refine ar_ldc2 (431556) dX12_commandHere_25 kc_X12_492 ?_
      obtain ⟨a3, e3, H⟩ := wp_b H
      refine rc_V1i dX12_commandHere_28 ml_X12_140 mc_X12_isWord (c_X12_isWord e3) rfl rfl rfl (ok_M rfl) rfl rfl rfl ?_
      refine ar_if_eq 36 dX12_commandHere_31 (by decide) (fun c3 => ?_) (fun c3 => ?_)
      · replace H := wp_t c3 H
        refine rl_a0 dX12_commandHere_36 ?_
        refine ar_ldc2 (553002600) dX12_commandHere_37 kc_X12_494 ?_
        obtain ⟨a4, e4, H⟩ := wp_b H
        refine rc_V1i dX12_commandHere_40 ml_X12_140 mc_X12_isWord (c_X12_isWord e4) rfl rfl rfl (ok_M rfl) rfl rfl rfl ?_
        refine ar_if_eq 48 dX12_commandHere_43 (by decide) (fun c4 => ?_) (fun c4 => ?_)
        · replace H := wp_t c4 H
          refine rl_a0 dX12_commandHere_48 ?_
          refine ar_ldc2 (20671185070) dX12_commandHere_49 kc_X12_496 ?_
          obtain ⟨a5, e5, H⟩ := wp_b H
          refine rc_V1i dX12_commandHere_52 ml_X12_140 mc_X12_isWord (c_X12_isWord e5) rfl rfl rfl (ok_M rfl) rfl rfl rfl ?_
          refine ar_if_eq 60 dX12_commandHere_55 (by decide) (fun c5 => ?_) (fun c5 => ?_)
          · replace H := wp_t c5 H
            refine rl_a0 dX12_commandHere_60 ?_
            refine ar_ldc2 (437853486) dX12_commandHere_61 kc_X12_239 ?_
            obtain ⟨a6, e6, H⟩ := wp_b H
            refine rc_V1i dX12_commandHere_64 ml_X12_140 mc_X12_isWord (c_X12_isWord e6) rfl rfl rfl (ok_M rfl) rfl rfl rfl ?_
            refine ar_if_eq 72 dX12_commandHere_67 (by decide) (fun c6 => ?_) (fun c6 => ?_)
            · replace H := wp_t c6 H
              refine rl_a0 dX12_commandHere_72 ?_
              refine ar_ldc2 (609752116) dX12_commandHere_73 kc_X12_498 ?_
              obtain ⟨a7, e7, H⟩ := wp_b H
              refine rc_V1i dX12_commandHere_76 ml_X12_140 mc_X12_isWord (c_X12_isWord e7) rfl rfl rfl (ok_M rfl) rfl rfl rfl ?_
              refine ar_if_eq 87 dX12_commandHere_79 (by decide) (fun c7 => ?_) (fun c7 => ?_)
              · replace H := wp_t c7 H
                refine ar_iconst (iI (-1)) dX12_commandHere_87 rfl ?_
                replace H := wp_s H
                exact ar_iret dX12_commandHere_88 rfl rfl H
              · replace H := wp_f c7 H
                refine ar_bipush (iI (6)) dX12_commandHere_82 rfl ?_
                refine ar_goto 88 dX12_commandHere_84 (by decide) ?_
                replace H := wp_s H
                exact ar_iret dX12_commandHere_88 rfl rfl H
            · replace H := wp_f c6 H
              refine ar_iconst (iI (5)) dX12_commandHere_70 rfl ?_
              replace H := wp_s H
              exact ar_iret dX12_commandHere_71 rfl rfl H
          · replace H := wp_f c5 H
            refine ar_iconst (iI (4)) dX12_commandHere_58 rfl ?_
            replace H := wp_s H
            exact ar_iret dX12_commandHere_59 rfl rfl H
        · replace H := wp_f c4 H
          refine ar_iconst (iI (3)) dX12_commandHere_46 rfl ?_
          replace H := wp_s H
          exact ar_iret dX12_commandHere_47 rfl rfl H
      · replace H := wp_f c3 H
        refine ar_iconst (iI (2)) dX12_commandHere_34 rfl ?_
        replace H := wp_s H
        exact ar_iret dX12_commandHere_35 rfl rfl H
    · replace H := wp_f c2 H
      refine ar_iconst (iI (1)) dX12_commandHere_22 rfl ?_
      replace H := wp_s H
      exact ar_iret dX12_commandHere_23 rfl rfl H
  · replace H := wp_f c1 H
    refine ar_iconst (iI (0)) dX12_commandHere_10 rfl ?_
    replace H := wp_s H
    exact ar_iret dX12_commandHere_11 rfl rfl H
noncomputable def f_X12_command_135  (x1 : Int32) (h : am_H) : Option am_H :=
  (f_X12_isGood h).bind (fun a1 => if a1 = 0 then (some (h)) else (am_lt (am_u h (.inl 0) 0 31 ((h.1 (.inl 0) 0 31) + (iI (1)))) (fun h1 => if x1 = (iI (6)) then ((f_X12_truth (iI (1))).bind (fun a2 => am_lt (am_u h1 (.inl 0) 0 33 ((h1.1 (.inl 0) 0 33) + a2)) (fun h2 => some (h2)))) else ((f_X12_truth (iI (0))).bind (fun a2 => am_lt (am_u h1 (.inl 0) 0 33 ((h1.1 (.inl 0) 0 33) + a2)) (fun h2 => some (h2)))))))
noncomputable def f_X12_command_48  (x1 : Int32) (h : am_H) : Option am_H :=
  (f_X12_isGood h).bind (fun a1 => if a1 = 0 then (some (h)) else (am_lt (am_u h (.inl 0) 0 32 ((h.1 (.inl 0) 0 32) + (iI (1)))) (fun h1 => (f_X12_goOn h1).bind (fun a2 => if ib (a2.1 (.inl 0) 0 31) 60 then (am_lt (am_u a2 (.inl 0) 13 (((a2.1 (.inl 0) 0 31)).toNatClampNeg) x1) (fun h2 => if x1 = (iI (6)) then ((f_X12_number (iI (1)) (iI (20)) h2).bind (fun a3 => if ib (a2.1 (.inl 0) 0 31) 60 then (am_lt (am_u a3.2 (.inl 0) 14 (((a2.1 (.inl 0) 0 31)).toNatClampNeg) a3.1) (fun h3 => if x1 = (iI (6)) then ((f_X12_mustSign (iI (40)) h3).bind (fun a4 => f_X12_command_135 x1 a4)) else (f_X12_command_135 x1 h3))) else none)) else (if x1 = (iI (1)) then (if x1 = (iI (6)) then ((f_X12_mustSign (iI (40)) h2).bind (fun a3 => f_X12_command_135 x1 a3)) else (f_X12_command_135 x1 h2)) else ((f_X12_number (iI (0)) (iI (999)) h2).bind (fun a3 => if ib (a2.1 (.inl 0) 0 31) 60 then (am_lt (am_u a3.2 (.inl 0) 14 (((a2.1 (.inl 0) 0 31)).toNatClampNeg) a3.1) (fun h3 => if x1 = (iI (6)) then ((f_X12_mustSign (iI (40)) h3).bind (fun a4 => f_X12_command_135 x1 a4)) else (f_X12_command_135 x1 h3))) else none))))) else none))))
noncomputable def f_X12_command_34  (x1 : Int32) (h : am_H) : Option am_H :=
  if (h.1 (.inl 0) 0 32) = (iI (30)) then ((f_X12_wrong (iI (5)) h).bind (fun a1 => f_X12_command_48 x1 a1)) else (f_X12_command_48 x1 h)
noncomputable def f_X12_command_15  (x1 : Int32) (h : am_H) : Option am_H :=
  if x1 = (iI (6)) then (if (h.1 (.inl 0) 0 33) = (iI (2)) then ((f_X12_wrong (iI (3)) h).bind (fun a1 => f_X12_command_34 x1 a1)) else (f_X12_command_34 x1 h)) else (f_X12_command_34 x1 h)
noncomputable def f_X12_command  (h : am_H) : Option am_H :=
  (f_X12_commandHere h).bind (fun a1 => if a1 = (iI (-1)) then ((f_X12_wrong (iI (1)) h).bind (fun a2 => f_X12_command_15 a1 a2)) else (f_X12_command_15 a1 h))
theorem c_X12_command_135  {x1 : Int32} {h : am_H} {Q : Option am_v → am_H → Prop} (H : wp (f_X12_command_135 x1 h) (fun a => Q none a)) : am_V RX12 cX12_command 3 (none) 3 70 0 0 none (am_Tm cX12_command (none) Q) 0 0 135 [some (am_r (.inl 0) 0), some (am_i x1), none] [] h := by
  unfold f_X12_command_135 at H
  refine rl_a0 dX12_command_135 ?_
  obtain ⟨a1, e1, H⟩ := wp_b H
  refine rc_V0i dX12_command_136 ml_X12_127 mc_X12_isGood (c_X12_isGood e1) rfl rfl rfl (ok_M rfl) rfl rfl rfl ?_
  refine ar_if_ne 143 dX12_command_139 (by decide) (fun c1 => ?_) (fun c1 => ?_)
  · replace H := wp_f c1 H
    refine rl_a0 dX12_command_143 ?_
    refine ar_dup dX12_command_144 trivial ?_
    refine ar_getI dX12_command_145 fg_X12_509 rfl rfl (ok_M rfl) ?_
    refine ar_iconst (iI (1)) dX12_command_148 rfl ?_
    refine ar_iadd dX12_command_149 ?_
    refine ar_putI dX12_command_150 fg_X12_509 rfl rfl (ok_M rfl) rfl rfl ?_
    replace H := wp_l H
    generalize am_u h (.inl 0) 0 31 ((h.1 (.inl 0) 0 31) + (iI (1))) = h1 at H ⊢
    refine rl_a0 dX12_command_153 ?_
    refine ar_dup dX12_command_154 trivial ?_
    refine ar_getI dX12_command_155 fg_X12_503 rfl rfl (ok_M rfl) ?_
    refine rl_i1 dX12_command_158 ?_
    refine ar_bipush (iI (6)) dX12_command_159 rfl ?_
    refine ar_ic_ne 168 dX12_command_161 (by decide) (fun c2 => ?_) (fun c2 => ?_)
    · replace H := wp_f c2 H
      refine ar_iconst (iI (0)) dX12_command_168 rfl ?_
      obtain ⟨a2, e2, H⟩ := wp_b H
      refine rc_S1i dX12_command_169 ml_X12_75 mc_X12_truth (c_X12_truth e2) rfl rfl rfl ?_
      refine ar_iadd dX12_command_172 ?_
      refine ar_putI dX12_command_173 fg_X12_503 rfl rfl (ok_M rfl) rfl rfl ?_
      replace H := wp_l H
      generalize am_u h1 (.inl 0) 0 33 ((h1.1 (.inl 0) 0 33) + a2) = h2 at H ⊢
      replace H := wp_s H
      exact ar_vret dX12_command_176 rfl H
    · replace H := wp_t c2 H
      refine ar_iconst (iI (1)) dX12_command_164 rfl ?_
      refine ar_goto 169 dX12_command_165 (by decide) ?_
      obtain ⟨a2, e2, H⟩ := wp_b H
      refine rc_S1i dX12_command_169 ml_X12_75 mc_X12_truth (c_X12_truth e2) rfl rfl rfl ?_
      refine ar_iadd dX12_command_172 ?_
      refine ar_putI dX12_command_173 fg_X12_503 rfl rfl (ok_M rfl) rfl rfl ?_
      replace H := wp_l H
      generalize am_u h1 (.inl 0) 0 33 ((h1.1 (.inl 0) 0 33) + a2) = h2 at H ⊢
      replace H := wp_s H
      exact ar_vret dX12_command_176 rfl H
  · replace H := wp_t c1 H
    replace H := wp_s H
    exact ar_vret dX12_command_142 rfl H
theorem c_X12_command_48  {x1 : Int32} {h : am_H} {Q : Option am_v → am_H → Prop} (H : wp (f_X12_command_48 x1 h) (fun a => Q none a)) : am_V RX12 cX12_command 3 (none) 3 70 0 0 none (am_Tm cX12_command (none) Q) 0 0 48 [some (am_r (.inl 0) 0), some (am_i x1), none] [] h := by
  unfold f_X12_command_48 at H
  refine rl_a0 dX12_command_48 ?_
  obtain ⟨a1, e1, H⟩ := wp_b H
  refine rc_V0i dX12_command_49 ml_X12_127 mc_X12_isGood (c_X12_isGood e1) rfl rfl rfl (ok_M rfl) rfl rfl rfl ?_
  refine ar_if_ne 56 dX12_command_52 (by decide) (fun c1 => ?_) (fun c1 => ?_)
  · replace H := wp_f c1 H
    refine rl_a0 dX12_command_56 ?_
    refine ar_dup dX12_command_57 trivial ?_
    refine ar_getI dX12_command_58 fg_X12_506 rfl rfl (ok_M rfl) ?_
    refine ar_iconst (iI (1)) dX12_command_61 rfl ?_
    refine ar_iadd dX12_command_62 ?_
    refine ar_putI dX12_command_63 fg_X12_506 rfl rfl (ok_M rfl) rfl rfl ?_
    replace H := wp_l H
    generalize am_u h (.inl 0) 0 32 ((h.1 (.inl 0) 0 32) + (iI (1))) = h1 at H ⊢
    refine rl_a0 dX12_command_66 ?_
    obtain ⟨a2, e2, H⟩ := wp_b H
    refine rc_V0v dX12_command_67 ml_X12_137 mc_X12_goOn (c_X12_goOn e2) rfl rfl rfl (ok_M rfl) rfl rfl rfl ?_
    refine rl_a0 dX12_command_70 ?_
    refine ar_getI dX12_command_71 fg_X12_509 rfl rfl (ok_M rfl) ?_
    refine rs_i2 dX12_command_74 rfl trivial ?_
    refine rl_a0 dX12_command_75 ?_
    refine rg_R (.inl 0) 13 dX12_command_76 fg_X12_54 rfl rfl rfl (ok_M rfl) ?_
    refine rl_i2 dX12_command_79 ?_
    refine rl_i1 dX12_command_80 ?_
    obtain ⟨b1, H⟩ := wp_g H
    refine ar_iast dX12_command_81 rfl (ok_M rfl) (ib_in b1) ?_
    replace H := wp_l H
    generalize am_u a2 (.inl 0) 13 (((a2.1 (.inl 0) 0 31)).toNatClampNeg) x1 = h2 at H ⊢
    refine rl_i1 dX12_command_82 ?_
    refine ar_bipush (iI (6)) dX12_command_83 rfl ?_
    refine ar_ic_ne 104 dX12_command_85 (by decide) (fun c2 => ?_) (fun c2 => ?_)
    · replace H := wp_f c2 H
      refine rl_i1 dX12_command_104 ?_
      refine ar_iconst (iI (1)) dX12_command_105 rfl ?_
      refine ar_ic_eq 123 dX12_command_106 (by decide) (fun c3 => ?_) (fun c3 => ?_)
      · replace H := wp_t c3 H
        refine rl_i1 dX12_command_123 ?_
        refine ar_bipush (iI (6)) dX12_command_124 rfl ?_
        refine ar_ic_ne 135 dX12_command_126 (by decide) (fun c4 => ?_) (fun c4 => ?_)
        · replace H := wp_f c4 H
          exact am_V.wk (am_s (am_s (am_n am_0))) (c_X12_command_135  H)
        · replace H := wp_t c4 H
          refine rl_a0 dX12_command_129 ?_
          refine ar_bipush (iI (40)) dX12_command_130 rfl ?_
          obtain ⟨a3, e3, H⟩ := wp_b H
          refine rc_V1v dX12_command_132 ml_X12_241 mc_X12_mustSign (c_X12_mustSign e3) rfl rfl rfl (ok_M rfl) rfl rfl rfl ?_
          exact am_V.wk (am_s (am_s (am_n am_0))) (c_X12_command_135  H)
      · replace H := wp_f c3 H
        refine rl_a0 dX12_command_109 ?_
        refine rg_R (.inl 0) 14 dX12_command_110 fg_X12_57 rfl rfl rfl (ok_M rfl) ?_
        refine rl_i2 dX12_command_113 ?_
        refine rl_a0 dX12_command_114 ?_
        refine ar_iconst (iI (0)) dX12_command_115 rfl ?_
        refine ar_sipush (iI (999)) dX12_command_116 rfl ?_
        obtain ⟨a3, e3, H⟩ := wp_b H
        refine rc_V2i dX12_command_119 ml_X12_182 mc_X12_number (c_X12_number e3) rfl rfl rfl (ok_M rfl) rfl rfl rfl ?_
        obtain ⟨b2, H⟩ := wp_g H
        refine ar_iast dX12_command_122 rfl (ok_M rfl) (ib_in b2) ?_
        replace H := wp_l H
        generalize am_u a3.2 (.inl 0) 14 (((a2.1 (.inl 0) 0 31)).toNatClampNeg) a3.1 = h3 at H ⊢
        refine rl_i1 dX12_command_123 ?_
        refine ar_bipush (iI (6)) dX12_command_124 rfl ?_
        refine ar_ic_ne 135 dX12_command_126 (by decide) (fun c4 => ?_) (fun c4 => ?_)
        · replace H := wp_f c4 H
          exact am_V.wk (am_s (am_s (am_n am_0))) (c_X12_command_135  H)
        · replace H := wp_t c4 H
          refine rl_a0 dX12_command_129 ?_
          refine ar_bipush (iI (40)) dX12_command_130 rfl ?_
          obtain ⟨a4, e4, H⟩ := wp_b H
          refine rc_V1v dX12_command_132 ml_X12_241 mc_X12_mustSign (c_X12_mustSign e4) rfl rfl rfl (ok_M rfl) rfl rfl rfl ?_
          exact am_V.wk (am_s (am_s (am_n am_0))) (c_X12_command_135  H)
    · replace H := wp_t c2 H
      refine rl_a0 dX12_command_88 ?_
      refine rg_R (.inl 0) 14 dX12_command_89 fg_X12_57 rfl rfl rfl (ok_M rfl) ?_
      refine rl_i2 dX12_command_92 ?_
      refine rl_a0 dX12_command_93 ?_
      refine ar_iconst (iI (1)) dX12_command_94 rfl ?_
      refine ar_bipush (iI (20)) dX12_command_95 rfl ?_
      obtain ⟨a3, e3, H⟩ := wp_b H
      refine rc_V2i dX12_command_97 ml_X12_182 mc_X12_number (c_X12_number e3) rfl rfl rfl (ok_M rfl) rfl rfl rfl ?_
      obtain ⟨b2, H⟩ := wp_g H
      refine ar_iast dX12_command_100 rfl (ok_M rfl) (ib_in b2) ?_
      replace H := wp_l H
      generalize am_u a3.2 (.inl 0) 14 (((a2.1 (.inl 0) 0 31)).toNatClampNeg) a3.1 = h3 at H ⊢
      refine ar_goto 123 dX12_command_101 (by decide) ?_
      refine rl_i1 dX12_command_123 ?_
      refine ar_bipush (iI (6)) dX12_command_124 rfl ?_
      refine ar_ic_ne 135 dX12_command_126 (by decide) (fun c3 => ?_) (fun c3 => ?_)
      · replace H := wp_f c3 H
        exact am_V.wk (am_s (am_s (am_n am_0))) (c_X12_command_135  H)
      · replace H := wp_t c3 H
        refine rl_a0 dX12_command_129 ?_
        refine ar_bipush (iI (40)) dX12_command_130 rfl ?_
        obtain ⟨a4, e4, H⟩ := wp_b H
        refine rc_V1v dX12_command_132 ml_X12_241 mc_X12_mustSign (c_X12_mustSign e4) rfl rfl rfl (ok_M rfl) rfl rfl rfl ?_
        exact am_V.wk (am_s (am_s (am_n am_0))) (c_X12_command_135  H)
  · replace H := wp_t c1 H
    replace H := wp_s H
    exact ar_vret dX12_command_55 rfl H
theorem c_X12_command_34  {x1 : Int32} {h : am_H} {Q : Option am_v → am_H → Prop} (H : wp (f_X12_command_34 x1 h) (fun a => Q none a)) : am_V RX12 cX12_command 3 (none) 3 70 0 0 none (am_Tm cX12_command (none) Q) 0 0 34 [some (am_r (.inl 0) 0), some (am_i x1), none] [] h := by
  unfold f_X12_command_34 at H
  refine rl_a0 dX12_command_34 ?_
  refine ar_getI dX12_command_35 fg_X12_506 rfl rfl (ok_M rfl) ?_
  refine ar_bipush (iI (30)) dX12_command_38 rfl ?_
  refine ar_ic_ne 48 dX12_command_40 (by decide) (fun c1 => ?_) (fun c1 => ?_)
  · replace H := wp_f c1 H
    exact am_V.wk (am_s (am_s (am_n am_0))) (c_X12_command_48  H)
  · replace H := wp_t c1 H
    refine rl_a0 dX12_command_43 ?_
    refine ar_iconst (iI (5)) dX12_command_44 rfl ?_
    obtain ⟨a1, e1, H⟩ := wp_b H
    refine rc_V1v dX12_command_45 ml_X12_134 mc_X12_wrong (c_X12_wrong e1) rfl rfl rfl (ok_M rfl) rfl rfl rfl ?_
    exact am_V.wk (am_s (am_s (am_n am_0))) (c_X12_command_48  H)
theorem c_X12_command_15  {x1 : Int32} {h : am_H} {Q : Option am_v → am_H → Prop} (H : wp (f_X12_command_15 x1 h) (fun a => Q none a)) : am_V RX12 cX12_command 3 (none) 3 70 0 0 none (am_Tm cX12_command (none) Q) 0 0 15 [some (am_r (.inl 0) 0), some (am_i x1), none] [] h := by
  unfold f_X12_command_15 at H
  refine rl_i1 dX12_command_15 ?_
  refine ar_bipush (iI (6)) dX12_command_16 rfl ?_
  refine ar_ic_ne 34 dX12_command_18 (by decide) (fun c1 => ?_) (fun c1 => ?_)
  · replace H := wp_f c1 H
    exact am_V.wk (am_s (am_s (am_n am_0))) (c_X12_command_34  H)
  · replace H := wp_t c1 H
    refine rl_a0 dX12_command_21 ?_
    refine ar_getI dX12_command_22 fg_X12_503 rfl rfl (ok_M rfl) ?_
    refine ar_iconst (iI (2)) dX12_command_25 rfl ?_
    refine ar_ic_ne 34 dX12_command_26 (by decide) (fun c2 => ?_) (fun c2 => ?_)
    · replace H := wp_f c2 H
      exact am_V.wk (am_s (am_s (am_n am_0))) (c_X12_command_34  H)
    · replace H := wp_t c2 H
      refine rl_a0 dX12_command_29 ?_
      refine ar_iconst (iI (3)) dX12_command_30 rfl ?_
      obtain ⟨a1, e1, H⟩ := wp_b H
      refine rc_V1v dX12_command_31 ml_X12_134 mc_X12_wrong (c_X12_wrong e1) rfl rfl rfl (ok_M rfl) rfl rfl rfl ?_
      exact am_V.wk (am_s (am_s (am_n am_0))) (c_X12_command_34  H)
theorem c_X12_command  {h : am_H} {a : am_H} (e : f_X12_command h = some a) : am_Mv yX12_command cX12_command 3 (none) 3 70 [am_r (.inl 0) 0] h a := by
  refine am_M.ofv (A := [some (am_r (.inl 0) 0), none, none]) (by decide +kernel) rfl (ble rfl) (fun Q hQ => ?_)
  have H : wp (f_X12_command h) (fun a => Q none a) := ⟨a, e, hQ⟩
  unfold f_X12_command at H
  refine rl_a0 dX12_command_0 ?_
  obtain ⟨a1, e1, H⟩ := wp_b H
  refine rc_V0i dX12_command_1 ml_X12_500 mc_X12_commandHere (c_X12_commandHere e1) rfl rfl rfl (ok_M rfl) rfl rfl rfl ?_
  refine rs_i1 dX12_command_4 rfl trivial ?_
  refine rl_i1 dX12_command_5 ?_
  refine ar_iconst (iI (-1)) dX12_command_6 rfl ?_
  refine ar_ic_ne 15 dX12_command_7 (by decide) (fun c1 => ?_) (fun c1 => ?_)
  · replace H := wp_f c1 H
    exact am_V.wk (am_s (am_s (am_n am_0))) (c_X12_command_15  H)
  · replace H := wp_t c1 H
    refine rl_a0 dX12_command_10 ?_
    refine ar_iconst (iI (1)) dX12_command_11 rfl ?_
    obtain ⟨a2, e2, H⟩ := wp_b H
    refine rc_V1v dX12_command_12 ml_X12_134 mc_X12_wrong (c_X12_wrong e2) rfl rfl rfl (ok_M rfl) rfl rfl rfl ?_
    exact am_V.wk (am_s (am_s (am_n am_0))) (c_X12_command_15  H)
noncomputable def s_X12_closes  : am_S am_H → Option (am_S am_H ⊕ am_H) := fun s => match s with
  | (0, [], [], [], h) => if (h.1 (.inl 0) 0 33) ≤ 0 then (some (.inr (h))) else ((f_X12_isSign (iI (41)) h).bind (fun a1 => if a1 = 0 then (some (.inr (h))) else (am_lt (am_u h (.inl 0) 0 33 ((h.1 (.inl 0) 0 33) - (iI (1)))) (fun h1 => if ib (h1.1 (.inl 0) 0 31) 60 then (am_lt (am_u h1 (.inl 0) 13 (((h1.1 (.inl 0) 0 31)).toNatClampNeg) (iI (7))) (fun h2 => am_lt (am_u h2 (.inl 0) 0 31 ((h2.1 (.inl 0) 0 31) + (iI (1)))) (fun h3 => (f_X12_goOn h3).bind (fun a2 => (f_X12_mustSign (iI (59)) a2).bind (fun a3 => some (.inl (0, [], [], [], a3))))))) else none))))
  | _ => none
noncomputable def f_X12_closes_0   (h : am_H) : Option am_H := lp (s_X12_closes) (0, [], [], [], h)
theorem e_X12_closes_0   (h : am_H) : f_X12_closes_0 h = (if (h.1 (.inl 0) 0 33) ≤ 0 then (some (h)) else ((f_X12_isSign (iI (41)) h).bind (fun a1 => if a1 = 0 then (some (h)) else (am_lt (am_u h (.inl 0) 0 33 ((h.1 (.inl 0) 0 33) - (iI (1)))) (fun h1 => if ib (h1.1 (.inl 0) 0 31) 60 then (am_lt (am_u h1 (.inl 0) 13 (((h1.1 (.inl 0) 0 31)).toNatClampNeg) (iI (7))) (fun h2 => am_lt (am_u h2 (.inl 0) 0 31 ((h2.1 (.inl 0) 0 31) + (iI (1)))) (fun h3 => (f_X12_goOn h3).bind (fun a2 => (f_X12_mustSign (iI (59)) a2).bind (fun a3 => f_X12_closes_0 a3))))) else none))))) := by
  show lp _ _ = _
  rw [lp_eq, s_X12_closes]
  simp only [lpk_i, lpk_b, lpk_l, lpk_n, lpk_j, lpk_r] <;> rfl
noncomputable def f_X12_closes  (h : am_H) : Option am_H := f_X12_closes_0 h
theorem c_X12_closes_L  {Q : Option am_v → am_H → Prop} : ∀ s, wp (lp (s_X12_closes) s) (fun a => Q none a) → ((∀ h, s = (0, [], [], [], h) → am_V RX12 cX12_closes 1 (none) 3 64 0 0 none (am_Tm cX12_closes (none) Q) 0 0 0 [some (am_r (.inl 0) 0)] [] h)) := by
  refine lp_ind _ _ (fun s H => fun h e => ?_)
  · subst e
    rw [s_X12_closes] at H
    refine rl_a0 dX12_closes_0 ?_
    refine ar_getI dX12_closes_1 fg_X12_503 rfl rfl (ok_M rfl) ?_
    refine ar_if_le 60 dX12_closes_4 (by decide) (fun c1 => ?_) (fun c1 => ?_)
    · replace H := wp_t c1 H
      replace H := lp_re H
      exact ar_vret dX12_closes_60 rfl H
    · replace H := wp_f c1 H
      refine rl_a0 dX12_closes_7 ?_
      refine ar_bipush (iI (41)) dX12_closes_8 rfl ?_
      obtain ⟨a1, e1, H⟩ := wp_b H
      refine rc_V1i dX12_closes_10 ml_X12_131 mc_X12_isSign (c_X12_isSign e1) rfl rfl rfl (ok_M rfl) rfl rfl rfl ?_
      refine ar_if_eq 60 dX12_closes_13 (by decide) (fun c2 => ?_) (fun c2 => ?_)
      · replace H := wp_t c2 H
        replace H := lp_re H
        exact ar_vret dX12_closes_60 rfl H
      · replace H := wp_f c2 H
        refine rl_a0 dX12_closes_16 ?_
        refine ar_dup dX12_closes_17 trivial ?_
        refine ar_getI dX12_closes_18 fg_X12_503 rfl rfl (ok_M rfl) ?_
        refine ar_iconst (iI (1)) dX12_closes_21 rfl ?_
        refine ar_isub dX12_closes_22 ?_
        refine ar_putI dX12_closes_23 fg_X12_503 rfl rfl (ok_M rfl) rfl rfl ?_
        replace H := wp_l H
        generalize am_u h (.inl 0) 0 33 ((h.1 (.inl 0) 0 33) - (iI (1))) = h1 at H ⊢
        refine rl_a0 dX12_closes_26 ?_
        refine rg_R (.inl 0) 13 dX12_closes_27 fg_X12_54 rfl rfl rfl (ok_M rfl) ?_
        refine rl_a0 dX12_closes_30 ?_
        refine ar_getI dX12_closes_31 fg_X12_509 rfl rfl (ok_M rfl) ?_
        refine ar_bipush (iI (7)) dX12_closes_34 rfl ?_
        obtain ⟨b1, H⟩ := wp_g H
        refine ar_iast dX12_closes_36 rfl (ok_M rfl) (ib_in b1) ?_
        replace H := wp_l H
        generalize am_u h1 (.inl 0) 13 (((h1.1 (.inl 0) 0 31)).toNatClampNeg) (iI (7)) = h2 at H ⊢
        refine rl_a0 dX12_closes_37 ?_
        refine ar_dup dX12_closes_38 trivial ?_
        refine ar_getI dX12_closes_39 fg_X12_509 rfl rfl (ok_M rfl) ?_
        refine ar_iconst (iI (1)) dX12_closes_42 rfl ?_
        refine ar_iadd dX12_closes_43 ?_
        refine ar_putI dX12_closes_44 fg_X12_509 rfl rfl (ok_M rfl) rfl rfl ?_
        replace H := wp_l H
        generalize am_u h2 (.inl 0) 0 31 ((h2.1 (.inl 0) 0 31) + (iI (1))) = h3 at H ⊢
        refine rl_a0 dX12_closes_47 ?_
        obtain ⟨a2, e2, H⟩ := wp_b H
        refine rc_V0v dX12_closes_48 ml_X12_137 mc_X12_goOn (c_X12_goOn e2) rfl rfl rfl (ok_M rfl) rfl rfl rfl ?_
        refine rl_a0 dX12_closes_51 ?_
        refine ar_bipush (iI (59)) dX12_closes_52 rfl ?_
        obtain ⟨a3, e3, H⟩ := wp_b H
        refine rc_V1v dX12_closes_54 ml_X12_241 mc_X12_mustSign (c_X12_mustSign e3) rfl rfl rfl (ok_M rfl) rfl rfl rfl ?_
        refine ar_goto 0 dX12_closes_57 (by decide) ?_
        exact am_V.wk (am_s am_0) ((lp_in H) _ rfl)
theorem c_X12_closes  {h : am_H} {a : am_H} (e : f_X12_closes h = some a) : am_Mv yX12_closes cX12_closes 1 (none) 3 64 [am_r (.inl 0) 0] h a := by
  refine am_M.ofv (A := [some (am_r (.inl 0) 0)]) (by decide +kernel) rfl (ble rfl) (fun Q hQ => ?_)
  have H : wp (f_X12_closes h) (fun a => Q none a) := ⟨a, e, hQ⟩
  unfold f_X12_closes at H
  exact am_V.wk (am_s am_0) ((c_X12_closes_L  _ H) _ rfl)
noncomputable def f_X12_may (x1 : Int32) (h : am_H) : Option Int32 :=
  if ib x1 60 then (if ib x1 60 then (if (h.1 (.inl 0) 13 x1.toNatClampNeg).toInt = 0 then ((f_X12_isLetter0 (h.1 (.inl 0) 14 x1.toNatClampNeg) h).bind (fun a1 => if a1 = 0 then (some ((iI (0)))) else ((f_X12_isPlanned (h.1 (.inl 0) 14 x1.toNatClampNeg) h).bind (fun a2 => if a2 = 0 then (some ((iI (0)))) else ((f_X12_mayEngrave h).bind (fun a3 => if a3 = 0 then (some ((iI (0)))) else (some ((iI (1)))))))))) else (if (h.1 (.inl 0) 13 x1.toNatClampNeg).toInt = 1 then ((f_X12_mayEngraveAll h).bind (fun a1 => if zb a1 then (some (a1)) else none)) else (if (h.1 (.inl 0) 13 x1.toNatClampNeg).toInt = 2 then ((f_X12_isScratch (h.1 (.inl 0) 14 x1.toNatClampNeg) h).bind (fun a1 => if a1 = 0 then (some ((iI (0)))) else ((f_X12_mayMendScratch (h.1 (.inl 0) 14 x1.toNatClampNeg) h).bind (fun a2 => if a2 = 0 then (some ((iI (0)))) else (some ((iI (1)))))))) else (if (h.1 (.inl 0) 13 x1.toNatClampNeg).toInt = 3 then ((f_X12_isLetter0 (h.1 (.inl 0) 14 x1.toNatClampNeg) h).bind (fun a1 => if a1 = 0 then (some ((iI (0)))) else ((f_X12_mayPolish (h.1 (.inl 0) 14 x1.toNatClampNeg) h).bind (fun a2 => if a2 = 0 then (some ((iI (0)))) else (some ((iI (1)))))))) else (if (h.1 (.inl 0) 13 x1.toNatClampNeg).toInt = 4 then ((f_X12_isWidth (h.1 (.inl 0) 14 x1.toNatClampNeg)).bind (fun a1 => if zb a1 then (some (a1)) else none)) else ((f_X12_isMargin (h.1 (.inl 0) 14 x1.toNatClampNeg)).bind (fun a1 => if zb a1 then (some (a1)) else none))))))) else none) else none
theorem c_X12_may {x1 : Int32} {h : am_H} {a : Int32} (e : f_X12_may x1 h = some a) : am_Mi yX12_may cX12_may 3 (some .boolean) 3 64 [am_r (.inl 0) 0, am_i x1] h a h := by
  refine am_M.ofi (A := [some (am_r (.inl 0) 0), some (am_i x1), none]) (by decide +kernel) rfl (ble rfl) (fun Q hQ => ?_)
  have H : wp (f_X12_may x1 h) (fun a => Q (some (am_i a)) h) := ⟨a, e, hQ⟩
  unfold f_X12_may at H
  refine rl_a0 dX12_may_0 ?_
  refine rg_R (.inl 0) 14 dX12_may_1 fg_X12_57 rfl rfl rfl (ok_M rfl) ?_
  refine rl_i1 dX12_may_4 ?_
  obtain ⟨b1, H⟩ := wp_g H
  refine ar_iald dX12_may_5 rfl (ok_M rfl) (ib_in b1) ?_
  refine rs_i2 dX12_may_6 rfl trivial ?_
  refine rl_a0 dX12_may_7 ?_
  refine rg_R (.inl 0) 13 dX12_may_8 fg_X12_54 rfl rfl rfl (ok_M rfl) ?_
  refine rl_i1 dX12_may_11 ?_
  obtain ⟨b2, H⟩ := wp_g H
  refine ar_iald dX12_may_12 rfl (ok_M rfl) (ib_in b2) ?_
  rcases Decidable.em ((h.1 (.inl 0) 13 x1.toNatClampNeg).toInt = 0) with c1_0 | c1_0
  · replace H := wp_t c1_0 H
    refine ar_swIn 48 dX12_may_13 (by omega) (by omega) (by rw [c1_0]; rfl) (by decide) ?_
    refine rl_a0 dX12_may_48 ?_
    refine rl_i2 dX12_may_49 ?_
    obtain ⟨a1, e1, H⟩ := wp_b H
    refine rc_V1i dX12_may_50 ml_X12_367 mc_X12_isLetter0 (c_X12_isLetter0 e1) rfl rfl rfl (ok_M rfl) rfl rfl rfl ?_
    refine ar_if_eq 75 dX12_may_53 (by decide) (fun c1 => ?_) (fun c1 => ?_)
    · replace H := wp_t c1 H
      refine ar_iconst (iI (0)) dX12_may_75 rfl ?_
      replace H := wp_s H
      exact ar_iret dX12_may_76 rfl rfl H
    · replace H := wp_f c1 H
      refine rl_a0 dX12_may_56 ?_
      refine rl_i2 dX12_may_57 ?_
      obtain ⟨a2, e2, H⟩ := wp_b H
      refine rc_V1i dX12_may_58 ml_X12_443 mc_X12_isPlanned (c_X12_isPlanned e2) rfl rfl rfl (ok_M rfl) rfl rfl rfl ?_
      refine ar_if_eq 75 dX12_may_61 (by decide) (fun c2 => ?_) (fun c2 => ?_)
      · replace H := wp_t c2 H
        refine ar_iconst (iI (0)) dX12_may_75 rfl ?_
        replace H := wp_s H
        exact ar_iret dX12_may_76 rfl rfl H
      · replace H := wp_f c2 H
        refine rl_a0 dX12_may_64 ?_
        obtain ⟨a3, e3, H⟩ := wp_b H
        refine rc_V0i dX12_may_65 ml_X12_446 mc_X12_mayEngrave (c_X12_mayEngrave e3) rfl rfl rfl (ok_M rfl) rfl rfl rfl ?_
        refine ar_if_eq 75 dX12_may_68 (by decide) (fun c3 => ?_) (fun c3 => ?_)
        · replace H := wp_t c3 H
          refine ar_iconst (iI (0)) dX12_may_75 rfl ?_
          replace H := wp_s H
          exact ar_iret dX12_may_76 rfl rfl H
        · replace H := wp_f c3 H
          refine ar_iconst (iI (1)) dX12_may_71 rfl ?_
          refine ar_goto 76 dX12_may_72 (by decide) ?_
          replace H := wp_s H
          exact ar_iret dX12_may_76 rfl rfl H
  replace H := wp_f c1_0 H
  rcases Decidable.em ((h.1 (.inl 0) 13 x1.toNatClampNeg).toInt = 1) with c1_1 | c1_1
  · replace H := wp_t c1_1 H
    refine ar_swIn 77 dX12_may_13 (by omega) (by omega) (by rw [c1_1]; rfl) (by decide) ?_
    refine rl_a0 dX12_may_77 ?_
    obtain ⟨a1, e1, H⟩ := wp_b H
    refine rc_V0i dX12_may_78 ml_X12_452 mc_X12_mayEngraveAll (c_X12_mayEngraveAll e1) rfl rfl rfl (ok_M rfl) rfl rfl rfl ?_
    obtain ⟨b3, H⟩ := wp_g H
    replace H := wp_s H
    exact ar_iret dX12_may_81 rfl (zb_n b3) H
  replace H := wp_f c1_1 H
  rcases Decidable.em ((h.1 (.inl 0) 13 x1.toNatClampNeg).toInt = 2) with c1_2 | c1_2
  · replace H := wp_t c1_2 H
    refine ar_swIn 82 dX12_may_13 (by omega) (by omega) (by rw [c1_2]; rfl) (by decide) ?_
    refine rl_a0 dX12_may_82 ?_
    refine rl_i2 dX12_may_83 ?_
    obtain ⟨a1, e1, H⟩ := wp_b H
    refine rc_V1i dX12_may_84 ml_X12_378 mc_X12_isScratch (c_X12_isScratch e1) rfl rfl rfl (ok_M rfl) rfl rfl rfl ?_
    refine ar_if_eq 102 dX12_may_87 (by decide) (fun c1 => ?_) (fun c1 => ?_)
    · replace H := wp_t c1 H
      refine ar_iconst (iI (0)) dX12_may_102 rfl ?_
      replace H := wp_s H
      exact ar_iret dX12_may_103 rfl rfl H
    · replace H := wp_f c1 H
      refine rl_a0 dX12_may_90 ?_
      refine rl_i2 dX12_may_91 ?_
      obtain ⟨a2, e2, H⟩ := wp_b H
      refine rc_V1i dX12_may_92 ml_X12_464 mc_X12_mayMendScratch (c_X12_mayMendScratch e2) rfl rfl rfl (ok_M rfl) rfl rfl rfl ?_
      refine ar_if_eq 102 dX12_may_95 (by decide) (fun c2 => ?_) (fun c2 => ?_)
      · replace H := wp_t c2 H
        refine ar_iconst (iI (0)) dX12_may_102 rfl ?_
        replace H := wp_s H
        exact ar_iret dX12_may_103 rfl rfl H
      · replace H := wp_f c2 H
        refine ar_iconst (iI (1)) dX12_may_98 rfl ?_
        refine ar_goto 103 dX12_may_99 (by decide) ?_
        replace H := wp_s H
        exact ar_iret dX12_may_103 rfl rfl H
  replace H := wp_f c1_2 H
  rcases Decidable.em ((h.1 (.inl 0) 13 x1.toNatClampNeg).toInt = 3) with c1_3 | c1_3
  · replace H := wp_t c1_3 H
    refine ar_swIn 104 dX12_may_13 (by omega) (by omega) (by rw [c1_3]; rfl) (by decide) ?_
    refine rl_a0 dX12_may_104 ?_
    refine rl_i2 dX12_may_105 ?_
    obtain ⟨a1, e1, H⟩ := wp_b H
    refine rc_V1i dX12_may_106 ml_X12_367 mc_X12_isLetter0 (c_X12_isLetter0 e1) rfl rfl rfl (ok_M rfl) rfl rfl rfl ?_
    refine ar_if_eq 124 dX12_may_109 (by decide) (fun c1 => ?_) (fun c1 => ?_)
    · replace H := wp_t c1 H
      refine ar_iconst (iI (0)) dX12_may_124 rfl ?_
      replace H := wp_s H
      exact ar_iret dX12_may_125 rfl rfl H
    · replace H := wp_f c1 H
      refine rl_a0 dX12_may_112 ?_
      refine rl_i2 dX12_may_113 ?_
      obtain ⟨a2, e2, H⟩ := wp_b H
      refine rc_V1i dX12_may_114 ml_X12_470 mc_X12_mayPolish (c_X12_mayPolish e2) rfl rfl rfl (ok_M rfl) rfl rfl rfl ?_
      refine ar_if_eq 124 dX12_may_117 (by decide) (fun c2 => ?_) (fun c2 => ?_)
      · replace H := wp_t c2 H
        refine ar_iconst (iI (0)) dX12_may_124 rfl ?_
        replace H := wp_s H
        exact ar_iret dX12_may_125 rfl rfl H
      · replace H := wp_f c2 H
        refine ar_iconst (iI (1)) dX12_may_120 rfl ?_
        refine ar_goto 125 dX12_may_121 (by decide) ?_
        replace H := wp_s H
        exact ar_iret dX12_may_125 rfl rfl H
  replace H := wp_f c1_3 H
  rcases Decidable.em ((h.1 (.inl 0) 13 x1.toNatClampNeg).toInt = 4) with c1_4 | c1_4
  · replace H := wp_t c1_4 H
    refine ar_swIn 126 dX12_may_13 (by omega) (by omega) (by rw [c1_4]; rfl) (by decide) ?_
    refine rl_i2 dX12_may_126 ?_
    obtain ⟨a1, e1, H⟩ := wp_b H
    refine rc_S1i dX12_may_127 ml_X12_476 mc_X12_isWidth (c_X12_isWidth e1) rfl rfl rfl ?_
    obtain ⟨b3, H⟩ := wp_g H
    replace H := wp_s H
    exact ar_iret dX12_may_130 rfl (zb_n b3) H
  replace H := wp_f c1_4 H
  refine ar_swOut 131 dX12_may_13 (by omega) (by decide) ?_
  refine rl_i2 dX12_may_131 ?_
  obtain ⟨a1, e1, H⟩ := wp_b H
  refine rc_S1i dX12_may_132 ml_X12_482 mc_X12_isMargin (c_X12_isMargin e1) rfl rfl rfl ?_
  obtain ⟨b3, H⟩ := wp_g H
  replace H := wp_s H
  exact ar_iret dX12_may_135 rfl (zb_n b3) H
noncomputable def f_X12_does (x1 : Int32) (h : am_H) : Option (Int32 × am_H) :=
  if ib x1 60 then (if ib x1 60 then (if (h.1 (.inl 0) 13 x1.toNatClampNeg).toInt = 0 then ((f_X12_engraves (h.1 (.inl 0) 14 x1.toNatClampNeg) h).bind (fun a1 => some ((a1.1, a1.2)))) else (if (h.1 (.inl 0) 13 x1.toNatClampNeg).toInt = 1 then ((f_X12_engravesAll (iI (40)) h).bind (fun a1 => some ((a1.1, a1.2)))) else (if (h.1 (.inl 0) 13 x1.toNatClampNeg).toInt = 2 then ((f_X12_mends (h.1 (.inl 0) 14 x1.toNatClampNeg) h).bind (fun a1 => some ((a1.1, a1.2)))) else (if (h.1 (.inl 0) 13 x1.toNatClampNeg).toInt = 3 then ((f_X12_polishes (h.1 (.inl 0) 14 x1.toNatClampNeg) h).bind (fun a1 => some ((a1.1, a1.2)))) else (if (h.1 (.inl 0) 13 x1.toNatClampNeg).toInt = 4 then ((f_X12_sharpens (h.1 (.inl 0) 14 x1.toNatClampNeg) h).bind (fun a1 => some ((a1.1, a1.2)))) else ((f_X12_swapsCell (iI (4)) (h.1 (.inl 0) 14 x1.toNatClampNeg) h).bind (fun a1 => some ((a1.1, a1.2))))))))) else none) else none
theorem c_X12_does {x1 : Int32} {h : am_H} {a : Int32 × am_H} (e : f_X12_does x1 h = some a) : am_Mi yX12_does cX12_does 3 (some .int) 9 198 [am_r (.inl 0) 0, am_i x1] h a.1 a.2 := by
  refine am_M.ofi (A := [some (am_r (.inl 0) 0), some (am_i x1), none]) (by decide +kernel) rfl (ble rfl) (fun Q hQ => ?_)
  have H : wp (f_X12_does x1 h) (fun a => Q (some (am_i a.1)) a.2) := ⟨a, e, hQ⟩
  unfold f_X12_does at H
  refine rl_a0 dX12_does_0 ?_
  refine rg_R (.inl 0) 14 dX12_does_1 fg_X12_57 rfl rfl rfl (ok_M rfl) ?_
  refine rl_i1 dX12_does_4 ?_
  obtain ⟨b1, H⟩ := wp_g H
  refine ar_iald dX12_does_5 rfl (ok_M rfl) (ib_in b1) ?_
  refine rs_i2 dX12_does_6 rfl trivial ?_
  refine rl_a0 dX12_does_7 ?_
  refine rg_R (.inl 0) 13 dX12_does_8 fg_X12_54 rfl rfl rfl (ok_M rfl) ?_
  refine rl_i1 dX12_does_11 ?_
  obtain ⟨b2, H⟩ := wp_g H
  refine ar_iald dX12_does_12 rfl (ok_M rfl) (ib_in b2) ?_
  rcases Decidable.em ((h.1 (.inl 0) 13 x1.toNatClampNeg).toInt = 0) with c1_0 | c1_0
  · replace H := wp_t c1_0 H
    refine ar_swIn 48 dX12_does_13 (by omega) (by omega) (by rw [c1_0]; rfl) (by decide) ?_
    refine rl_a0 dX12_does_48 ?_
    refine rl_i2 dX12_does_49 ?_
    obtain ⟨a1, e1, H⟩ := wp_b H
    refine rc_V1i dX12_does_50 ml_X12_344 mc_X12_engraves (c_X12_engraves e1) rfl rfl rfl (ok_M rfl) rfl rfl rfl ?_
    replace H := wp_s H
    exact ar_iret dX12_does_53 rfl rfl H
  replace H := wp_f c1_0 H
  rcases Decidable.em ((h.1 (.inl 0) 13 x1.toNatClampNeg).toInt = 1) with c1_1 | c1_1
  · replace H := wp_t c1_1 H
    refine ar_swIn 54 dX12_does_13 (by omega) (by omega) (by rw [c1_1]; rfl) (by decide) ?_
    refine rl_a0 dX12_does_54 ?_
    refine ar_bipush (iI (40)) dX12_does_55 rfl ?_
    obtain ⟨a1, e1, H⟩ := wp_b H
    refine rc_V1i dX12_does_57 ml_X12_404 mc_X12_engravesAll (c_X12_engravesAll e1) rfl rfl rfl (ok_M rfl) rfl rfl rfl ?_
    replace H := wp_s H
    exact ar_iret dX12_does_60 rfl rfl H
  replace H := wp_f c1_1 H
  rcases Decidable.em ((h.1 (.inl 0) 13 x1.toNatClampNeg).toInt = 2) with c1_2 | c1_2
  · replace H := wp_t c1_2 H
    refine ar_swIn 61 dX12_does_13 (by omega) (by omega) (by rw [c1_2]; rfl) (by decide) ?_
    refine rl_a0 dX12_does_61 ?_
    refine rl_i2 dX12_does_62 ?_
    obtain ⟨a1, e1, H⟩ := wp_b H
    refine rc_V1i dX12_does_63 ml_X12_467 mc_X12_mends (c_X12_mends e1) rfl rfl rfl (ok_M rfl) rfl rfl rfl ?_
    replace H := wp_s H
    exact ar_iret dX12_does_66 rfl rfl H
  replace H := wp_f c1_2 H
  rcases Decidable.em ((h.1 (.inl 0) 13 x1.toNatClampNeg).toInt = 3) with c1_3 | c1_3
  · replace H := wp_t c1_3 H
    refine ar_swIn 67 dX12_does_13 (by omega) (by omega) (by rw [c1_3]; rfl) (by decide) ?_
    refine rl_a0 dX12_does_67 ?_
    refine rl_i2 dX12_does_68 ?_
    obtain ⟨a1, e1, H⟩ := wp_b H
    refine rc_V1i dX12_does_69 ml_X12_473 mc_X12_polishes (c_X12_polishes e1) rfl rfl rfl (ok_M rfl) rfl rfl rfl ?_
    replace H := wp_s H
    exact ar_iret dX12_does_72 rfl rfl H
  replace H := wp_f c1_3 H
  rcases Decidable.em ((h.1 (.inl 0) 13 x1.toNatClampNeg).toInt = 4) with c1_4 | c1_4
  · replace H := wp_t c1_4 H
    refine ar_swIn 73 dX12_does_13 (by omega) (by omega) (by rw [c1_4]; rfl) (by decide) ?_
    refine rl_a0 dX12_does_73 ?_
    refine rl_i2 dX12_does_74 ?_
    obtain ⟨a1, e1, H⟩ := wp_b H
    refine rc_V1i dX12_does_75 ml_X12_479 mc_X12_sharpens (c_X12_sharpens e1) rfl rfl rfl (ok_M rfl) rfl rfl rfl ?_
    replace H := wp_s H
    exact ar_iret dX12_does_78 rfl rfl H
  replace H := wp_f c1_4 H
  refine ar_swOut 79 dX12_does_13 (by omega) (by decide) ?_
  refine rl_a0 dX12_does_79 ?_
  refine ar_iconst (iI (4)) dX12_does_80 rfl ?_
  refine rl_i2 dX12_does_81 ?_
  obtain ⟨a1, e1, H⟩ := wp_b H
  refine rc_V2i dX12_does_82 ml_X12_485 mc_X12_swapsCell (c_X12_swapsCell e1) rfl rfl rfl (ok_M rfl) rfl rfl rfl ?_
  replace H := wp_s H
  exact ar_iret dX12_does_85 rfl rfl H
noncomputable def s_X12_doesAll  : am_S am_H → Option (am_S am_H ⊕ (Int32 × am_H)) := fun s => match s with
  | (9, [x1, x2, x3, x4], [], [], h) => if x4 = 0 then (some (.inr ((x1, h)))) else (if (h.1 (.inl 0) 0 31) ≤ x3 then (some (.inr ((x1, h)))) else (if (iI (40)) ≤ x1 then (some (.inr ((x1, h)))) else (if ib x3 60 then (if (h.1 (.inl 0) 13 x3.toNatClampNeg) = (iI (6)) then (if ib x2 2 then (am_lt (am_u h (.inl 0) 15 x2.toNatClampNeg x3) (fun h1 => if ib x3 60 then (if ib x2 2 then (am_lt (am_u h1 (.inl 0) 16 x2.toNatClampNeg (h1.1 (.inl 0) 14 x3.toNatClampNeg)) (fun h2 => some (.inl (9, [x1, (x2 + 1), (x3 + 1), x4], [], [], h2)))) else none) else none)) else none) else (if ib x3 60 then (if (h.1 (.inl 0) 13 x3.toNatClampNeg) = (iI (7)) then (if ib (x2 - (iI (1))) 2 then (if ib (x2 - (iI (1))) 2 then (am_lt (am_u h (.inl 0) 16 (((x2 - (iI (1)))).toNatClampNeg) ((h.1 (.inl 0) 16 ((x2 - (iI (1)))).toNatClampNeg) - (iI (1)))) (fun h1 => if ib (x2 - (iI (1))) 2 then (if (h1.1 (.inl 0) 16 ((x2 - (iI (1)))).toNatClampNeg) ≤ 0 then (some (.inl (106, [x1, x2, x3, x4, (iI (0))], [], [], h1))) else (some (.inl (106, [x1, x2, x3, x4, (iI (1))], [], [], h1)))) else none)) else none) else none) else ((f_X12_may x3 h).bind (fun a1 => if a1 = 0 then (some (.inl (170, [x1, x2, x3, a1, (iI (0))], [], [], h))) else ((f_X12_does x3 h).bind (fun a2 => some (.inl (170, [x1, x2, x3, a1, a2.1], [], [], a2.2))))))) else none)) else none)))
  | (106, [x1, x2, x3, x4, y0], [], [], h) => if y0 = 0 then (some (.inl (129, [x1, x2, x4, y0, (x3 + (iI (1)))], [], [], h))) else (if ib (x2 - (iI (1))) 2 then (some (.inl (129, [x1, x2, x4, y0, ((h.1 (.inl 0) 15 ((x2 - (iI (1)))).toNatClampNeg) + (iI (1)))], [], [], h))) else none)
  | (129, [x1, x2, x4, x5, y0], [], [], h) => if x5 = 0 then ((f_X12_truth (iI (1))).bind (fun a1 => some (.inl (9, [x1, (x2 - a1), y0, x4], [], [], h)))) else ((f_X12_truth (iI (0))).bind (fun a1 => some (.inl (9, [x1, (x2 - a1), y0, x4], [], [], h))))
  | (170, [x1, x2, x3, x4, y0], [], [], h) => (f_X12_truth x4).bind (fun a1 => some (.inl (9, [(x1 + a1), x2, (x3 + 1), x4], [], [], h)))
  | _ => none
noncomputable def f_X12_doesAll_9  (x1 : Int32) (x2 : Int32) (x3 : Int32) (x4 : Int32) (h : am_H) : Option (Int32 × am_H) := lp (s_X12_doesAll) (9, [x1, x2, x3, x4], [], [], h)
noncomputable def f_X12_doesAll_106  (x1 : Int32) (x2 : Int32) (x3 : Int32) (x4 : Int32) (y0 : Int32) (h : am_H) : Option (Int32 × am_H) := lp (s_X12_doesAll) (106, [x1, x2, x3, x4, y0], [], [], h)
noncomputable def f_X12_doesAll_129  (x1 : Int32) (x2 : Int32) (x4 : Int32) (x5 : Int32) (y0 : Int32) (h : am_H) : Option (Int32 × am_H) := lp (s_X12_doesAll) (129, [x1, x2, x4, x5, y0], [], [], h)
noncomputable def f_X12_doesAll_170  (x1 : Int32) (x2 : Int32) (x3 : Int32) (x4 : Int32) (y0 : Int32) (h : am_H) : Option (Int32 × am_H) := lp (s_X12_doesAll) (170, [x1, x2, x3, x4, y0], [], [], h)
theorem e_X12_doesAll_9  (x1 : Int32) (x2 : Int32) (x3 : Int32) (x4 : Int32) (h : am_H) : f_X12_doesAll_9 x1 x2 x3 x4 h = (if x4 = 0 then (some ((x1, h))) else (if (h.1 (.inl 0) 0 31) ≤ x3 then (some ((x1, h))) else (if (iI (40)) ≤ x1 then (some ((x1, h))) else (if ib x3 60 then (if (h.1 (.inl 0) 13 x3.toNatClampNeg) = (iI (6)) then (if ib x2 2 then (am_lt (am_u h (.inl 0) 15 x2.toNatClampNeg x3) (fun h1 => if ib x3 60 then (if ib x2 2 then (am_lt (am_u h1 (.inl 0) 16 x2.toNatClampNeg (h1.1 (.inl 0) 14 x3.toNatClampNeg)) (fun h2 => f_X12_doesAll_9 x1 (x2 + 1) (x3 + 1) x4 h2)) else none) else none)) else none) else (if ib x3 60 then (if (h.1 (.inl 0) 13 x3.toNatClampNeg) = (iI (7)) then (if ib (x2 - (iI (1))) 2 then (if ib (x2 - (iI (1))) 2 then (am_lt (am_u h (.inl 0) 16 (((x2 - (iI (1)))).toNatClampNeg) ((h.1 (.inl 0) 16 ((x2 - (iI (1)))).toNatClampNeg) - (iI (1)))) (fun h1 => if ib (x2 - (iI (1))) 2 then (if (h1.1 (.inl 0) 16 ((x2 - (iI (1)))).toNatClampNeg) ≤ 0 then (f_X12_doesAll_106 x1 x2 x3 x4 (iI (0)) h1) else (f_X12_doesAll_106 x1 x2 x3 x4 (iI (1)) h1)) else none)) else none) else none) else ((f_X12_may x3 h).bind (fun a1 => if a1 = 0 then (f_X12_doesAll_170 x1 x2 x3 a1 (iI (0)) h) else ((f_X12_does x3 h).bind (fun a2 => f_X12_doesAll_170 x1 x2 x3 a1 a2.1 a2.2))))) else none)) else none)))) := by
  show lp _ _ = _
  rw [lp_eq, s_X12_doesAll]
  simp only [lpk_i, lpk_b, lpk_l, lpk_n, lpk_j, lpk_r] <;> rfl
theorem e_X12_doesAll_106  (x1 : Int32) (x2 : Int32) (x3 : Int32) (x4 : Int32) (y0 : Int32) (h : am_H) : f_X12_doesAll_106 x1 x2 x3 x4 y0 h = (if y0 = 0 then (f_X12_doesAll_129 x1 x2 x4 y0 (x3 + (iI (1))) h) else (if ib (x2 - (iI (1))) 2 then (f_X12_doesAll_129 x1 x2 x4 y0 ((h.1 (.inl 0) 15 ((x2 - (iI (1)))).toNatClampNeg) + (iI (1))) h) else none)) := by
  show lp _ _ = _
  rw [lp_eq, s_X12_doesAll]
  simp only [lpk_i, lpk_b, lpk_l, lpk_n, lpk_j, lpk_r] <;> rfl
theorem e_X12_doesAll_129  (x1 : Int32) (x2 : Int32) (x4 : Int32) (x5 : Int32) (y0 : Int32) (h : am_H) : f_X12_doesAll_129 x1 x2 x4 x5 y0 h = (if x5 = 0 then ((f_X12_truth (iI (1))).bind (fun a1 => f_X12_doesAll_9 x1 (x2 - a1) y0 x4 h)) else ((f_X12_truth (iI (0))).bind (fun a1 => f_X12_doesAll_9 x1 (x2 - a1) y0 x4 h))) := by
  show lp _ _ = _
  rw [lp_eq, s_X12_doesAll]
  simp only [lpk_i, lpk_b, lpk_l, lpk_n, lpk_j, lpk_r] <;> rfl
theorem e_X12_doesAll_170  (x1 : Int32) (x2 : Int32) (x3 : Int32) (x4 : Int32) (y0 : Int32) (h : am_H) : f_X12_doesAll_170 x1 x2 x3 x4 y0 h = ((f_X12_truth x4).bind (fun a1 => f_X12_doesAll_9 (x1 + a1) x2 (x3 + 1) x4 h)) := by
  show lp _ _ = _
  rw [lp_eq, s_X12_doesAll]
  simp only [lpk_i, lpk_b, lpk_l, lpk_n, lpk_j, lpk_r] <;> rfl
noncomputable def f_X12_doesAll  (h : am_H) : Option (Int32 × am_H) :=
  f_X12_doesAll_9 (iI (0)) (iI (0)) (iI (0)) (iI (1)) h
theorem c_X12_doesAll_L  {Q : Option am_v → am_H → Prop} : ∀ s, wp (lp (s_X12_doesAll) s) (fun a => Q (some (am_i a.1)) a.2) → ((∀ x1 x2 x3 x4 h, s = (9, [x1, x2, x3, x4], [], [], h) → am_V RX12 cX12_doesAll 6 (some .int) 10 220 0 0 none (am_Tm cX12_doesAll (some .int) Q) 0 0 9 [some (am_r (.inl 0) 0), some (am_i x1), some (am_i x2), some (am_i x3), some (am_i x4), none] [] h) ∧ (∀ x1 x2 x3 x4 y0 h, s = (106, [x1, x2, x3, x4, y0], [], [], h) → am_V RX12 cX12_doesAll 6 (some .int) 10 220 0 0 none (am_Tm cX12_doesAll (some .int) Q) 0 0 106 [some (am_r (.inl 0) 0), some (am_i x1), some (am_i x2), some (am_i x3), some (am_i x4), none] [am_i y0] h) ∧ (∀ x1 x2 x4 x5 y0 h, s = (129, [x1, x2, x4, x5, y0], [], [], h) → am_V RX12 cX12_doesAll 6 (some .int) 10 220 0 0 none (am_Tm cX12_doesAll (some .int) Q) 0 0 129 [some (am_r (.inl 0) 0), some (am_i x1), some (am_i x2), none, some (am_i x4), some (am_i x5)] [am_i y0] h) ∧ (∀ x1 x2 x3 x4 y0 h, s = (170, [x1, x2, x3, x4, y0], [], [], h) → am_V RX12 cX12_doesAll 6 (some .int) 10 220 0 0 none (am_Tm cX12_doesAll (some .int) Q) 0 0 170 [some (am_r (.inl 0) 0), some (am_i x1), some (am_i x2), some (am_i x3), some (am_i x4), none] [am_i y0] h)) := by
  refine lp_ind _ _ (fun s H => ⟨fun x1 x2 x3 x4 h e => ?_, fun x1 x2 x3 x4 y0 h e => ?_, fun x1 x2 x4 x5 y0 h e => ?_, fun x1 x2 x3 x4 y0 h e => ?_⟩)
  · subst e
    rw [s_X12_doesAll] at H
    refine rl_i4 dX12_doesAll_9 ?_
    refine ar_if_eq 186 dX12_doesAll_11 (by decide) (fun c1 => ?_) (fun c1 => ?_)
    · replace H := wp_t c1 H
      refine rl_i1 dX12_doesAll_186 ?_
      replace H := lp_re H
      exact ar_iret dX12_doesAll_187 rfl rfl H
    · replace H := wp_f c1 H
      refine rl_i3 dX12_doesAll_14 ?_
      refine rl_a0 dX12_doesAll_15 ?_
      refine ar_getI dX12_doesAll_16 fg_X12_509 rfl rfl (ok_M rfl) ?_
      refine ar_ic_ge 186 dX12_doesAll_19 (by decide) (fun c2 => ?_) (fun c2 => ?_)
      · replace H := wp_t c2 H
        refine rl_i1 dX12_doesAll_186 ?_
        replace H := lp_re H
        exact ar_iret dX12_doesAll_187 rfl rfl H
      · replace H := wp_f c2 H
        refine rl_i1 dX12_doesAll_22 ?_
        refine ar_bipush (iI (40)) dX12_doesAll_23 rfl ?_
        refine ar_ic_ge 186 dX12_doesAll_25 (by decide) (fun c3 => ?_) (fun c3 => ?_)
        · replace H := wp_t c3 H
          refine rl_i1 dX12_doesAll_186 ?_
          replace H := lp_re H
          exact ar_iret dX12_doesAll_187 rfl rfl H
        · replace H := wp_f c3 H
          refine rl_a0 dX12_doesAll_28 ?_
          refine rg_R (.inl 0) 13 dX12_doesAll_29 fg_X12_54 rfl rfl rfl (ok_M rfl) ?_
          refine rl_i3 dX12_doesAll_32 ?_
          obtain ⟨b1, H⟩ := wp_g H
          refine ar_iald dX12_doesAll_33 rfl (ok_M rfl) (ib_in b1) ?_
          refine ar_bipush (iI (6)) dX12_doesAll_34 rfl ?_
          refine ar_ic_ne 67 dX12_doesAll_36 (by decide) (fun c4 => ?_) (fun c4 => ?_)
          · replace H := wp_f c4 H
            refine rl_a0 dX12_doesAll_67 ?_
            refine rg_R (.inl 0) 13 dX12_doesAll_68 fg_X12_54 rfl rfl rfl (ok_M rfl) ?_
            refine rl_i3 dX12_doesAll_71 ?_
            obtain ⟨b2, H⟩ := wp_g H
            refine ar_iald dX12_doesAll_72 rfl (ok_M rfl) (ib_in b2) ?_
            refine ar_bipush (iI (7)) dX12_doesAll_73 rfl ?_
            refine ar_ic_ne 149 dX12_doesAll_75 (by decide) (fun c5 => ?_) (fun c5 => ?_)
            · replace H := wp_f c5 H
              refine rl_a0 dX12_doesAll_149 ?_
              refine rl_i3 dX12_doesAll_150 ?_
              obtain ⟨a1, e1, H⟩ := wp_b H
              refine rc_V1i dX12_doesAll_151 ml_X12_521 mc_X12_may (c_X12_may e1) rfl rfl rfl (ok_M rfl) rfl rfl rfl ?_
              refine rs_i4 dX12_doesAll_154 rfl trivial ?_
              refine rl_i4 dX12_doesAll_156 ?_
              refine ar_if_eq 169 dX12_doesAll_158 (by decide) (fun c6 => ?_) (fun c6 => ?_)
              · replace H := wp_t c6 H
                refine ar_iconst (iI (0)) dX12_doesAll_169 rfl ?_
                exact am_V.wk (am_s (am_s (am_s (am_s (am_s (am_n am_0)))))) ((lp_in H).2.2.2 _ _ _ _ _ _ rfl)
              · replace H := wp_f c6 H
                refine rl_a0 dX12_doesAll_161 ?_
                refine rl_i3 dX12_doesAll_162 ?_
                obtain ⟨a2, e2, H⟩ := wp_b H
                refine rc_V1i dX12_doesAll_163 ml_X12_524 mc_X12_does (c_X12_does e2) rfl rfl rfl (ok_M rfl) rfl rfl rfl ?_
                refine ar_goto 170 dX12_doesAll_166 (by decide) ?_
                exact am_V.wk (am_s (am_s (am_s (am_s (am_s (am_n am_0)))))) ((lp_in H).2.2.2 _ _ _ _ _ _ rfl)
            · replace H := wp_t c5 H
              refine rl_a0 dX12_doesAll_78 ?_
              refine rg_R (.inl 0) 16 dX12_doesAll_79 fg_X12_63 rfl rfl rfl (ok_M rfl) ?_
              refine rl_i2 dX12_doesAll_82 ?_
              refine ar_iconst (iI (1)) dX12_doesAll_83 rfl ?_
              refine ar_isub dX12_doesAll_84 ?_
              refine ar_dup2 dX12_doesAll_85 trivial trivial ?_
              obtain ⟨b3, H⟩ := wp_g H
              refine ar_iald dX12_doesAll_86 rfl (ok_M rfl) (ib_in b3) ?_
              refine ar_iconst (iI (1)) dX12_doesAll_87 rfl ?_
              refine ar_isub dX12_doesAll_88 ?_
              obtain ⟨b4, H⟩ := wp_g H
              refine ar_iast dX12_doesAll_89 rfl (ok_M rfl) (ib_in b4) ?_
              replace H := wp_l H
              generalize am_u h (.inl 0) 16 (((x2 - (iI (1)))).toNatClampNeg) ((h.1 (.inl 0) 16 ((x2 - (iI (1)))).toNatClampNeg) - (iI (1))) = h1 at H ⊢
              refine rl_a0 dX12_doesAll_90 ?_
              refine rg_R (.inl 0) 16 dX12_doesAll_91 fg_X12_63 rfl rfl rfl (ok_M rfl) ?_
              refine rl_i2 dX12_doesAll_94 ?_
              refine ar_iconst (iI (1)) dX12_doesAll_95 rfl ?_
              refine ar_isub dX12_doesAll_96 ?_
              obtain ⟨b5, H⟩ := wp_g H
              refine ar_iald dX12_doesAll_97 rfl (ok_M rfl) (ib_in b5) ?_
              refine ar_if_le 105 dX12_doesAll_98 (by decide) (fun c6 => ?_) (fun c6 => ?_)
              · replace H := wp_t c6 H
                refine ar_iconst (iI (0)) dX12_doesAll_105 rfl ?_
                exact am_V.wk (am_s (am_s (am_s (am_s (am_s (am_n am_0)))))) ((lp_in H).2.1 _ _ _ _ _ _ rfl)
              · replace H := wp_f c6 H
                refine ar_iconst (iI (1)) dX12_doesAll_101 rfl ?_
                refine ar_goto 106 dX12_doesAll_102 (by decide) ?_
                exact am_V.wk (am_s (am_s (am_s (am_s (am_s (am_n am_0)))))) ((lp_in H).2.1 _ _ _ _ _ _ rfl)
          · replace H := wp_t c4 H
            refine rl_a0 dX12_doesAll_39 ?_
            refine rg_R (.inl 0) 15 dX12_doesAll_40 fg_X12_60 rfl rfl rfl (ok_M rfl) ?_
            refine rl_i2 dX12_doesAll_43 ?_
            refine rl_i3 dX12_doesAll_44 ?_
            obtain ⟨b2, H⟩ := wp_g H
            refine ar_iast dX12_doesAll_45 rfl (ok_M rfl) (ib_in b2) ?_
            replace H := wp_l H
            generalize am_u h (.inl 0) 15 x2.toNatClampNeg x3 = h1 at H ⊢
            refine rl_a0 dX12_doesAll_46 ?_
            refine rg_R (.inl 0) 16 dX12_doesAll_47 fg_X12_63 rfl rfl rfl (ok_M rfl) ?_
            refine rl_i2 dX12_doesAll_50 ?_
            refine rl_a0 dX12_doesAll_51 ?_
            refine rg_R (.inl 0) 14 dX12_doesAll_52 fg_X12_57 rfl rfl rfl (ok_M rfl) ?_
            refine rl_i3 dX12_doesAll_55 ?_
            obtain ⟨b3, H⟩ := wp_g H
            refine ar_iald dX12_doesAll_56 rfl (ok_M rfl) (ib_in b3) ?_
            obtain ⟨b4, H⟩ := wp_g H
            refine ar_iast dX12_doesAll_57 rfl (ok_M rfl) (ib_in b4) ?_
            replace H := wp_l H
            generalize am_u h1 (.inl 0) 16 x2.toNatClampNeg (h1.1 (.inl 0) 14 x3.toNatClampNeg) = h2 at H ⊢
            refine rn_1_2 dX12_doesAll_58 rfl trivial ?_
            refine rn_1_3 dX12_doesAll_61 rfl trivial ?_
            refine ar_goto 9 dX12_doesAll_64 (by decide) ?_
            exact am_V.wk (am_s (am_s (am_s (am_s (am_s (am_n am_0)))))) ((lp_in H).1 _ _ _ _ _ rfl)
  · subst e
    rw [s_X12_doesAll] at H
    refine rs_i5 dX12_doesAll_106 rfl trivial ?_
    refine rl_i5 dX12_doesAll_108 ?_
    refine ar_if_eq 126 dX12_doesAll_110 (by decide) (fun c1 => ?_) (fun c1 => ?_)
    · replace H := wp_t c1 H
      refine rl_i3 dX12_doesAll_126 ?_
      refine ar_iconst (iI (1)) dX12_doesAll_127 rfl ?_
      refine ar_iadd dX12_doesAll_128 ?_
      exact am_V.wk (am_s (am_s (am_s (am_n (am_s (am_s am_0)))))) ((lp_in H).2.2.1 _ _ _ _ _ _ rfl)
    · replace H := wp_f c1 H
      refine rl_a0 dX12_doesAll_113 ?_
      refine rg_R (.inl 0) 15 dX12_doesAll_114 fg_X12_60 rfl rfl rfl (ok_M rfl) ?_
      refine rl_i2 dX12_doesAll_117 ?_
      refine ar_iconst (iI (1)) dX12_doesAll_118 rfl ?_
      refine ar_isub dX12_doesAll_119 ?_
      obtain ⟨b1, H⟩ := wp_g H
      refine ar_iald dX12_doesAll_120 rfl (ok_M rfl) (ib_in b1) ?_
      refine ar_iconst (iI (1)) dX12_doesAll_121 rfl ?_
      refine ar_iadd dX12_doesAll_122 ?_
      refine ar_goto 129 dX12_doesAll_123 (by decide) ?_
      exact am_V.wk (am_s (am_s (am_s (am_n (am_s (am_s am_0)))))) ((lp_in H).2.2.1 _ _ _ _ _ _ rfl)
  · subst e
    rw [s_X12_doesAll] at H
    refine rs_i3 dX12_doesAll_129 rfl trivial ?_
    refine rl_i2 dX12_doesAll_130 ?_
    refine rl_i5 dX12_doesAll_131 ?_
    refine ar_if_ne 140 dX12_doesAll_133 (by decide) (fun c1 => ?_) (fun c1 => ?_)
    · replace H := wp_f c1 H
      refine ar_iconst (iI (0)) dX12_doesAll_140 rfl ?_
      obtain ⟨a1, e1, H⟩ := wp_b H
      refine rc_S1i dX12_doesAll_141 ml_X12_75 mc_X12_truth (c_X12_truth e1) rfl rfl rfl ?_
      refine ar_isub dX12_doesAll_144 ?_
      refine rs_i2 dX12_doesAll_145 rfl trivial ?_
      refine ar_goto 9 dX12_doesAll_146 (by decide) ?_
      exact am_V.wk (am_s (am_s (am_s (am_s (am_s (am_n am_0)))))) ((lp_in H).1 _ _ _ _ _ rfl)
    · replace H := wp_t c1 H
      refine ar_iconst (iI (1)) dX12_doesAll_136 rfl ?_
      refine ar_goto 141 dX12_doesAll_137 (by decide) ?_
      obtain ⟨a1, e1, H⟩ := wp_b H
      refine rc_S1i dX12_doesAll_141 ml_X12_75 mc_X12_truth (c_X12_truth e1) rfl rfl rfl ?_
      refine ar_isub dX12_doesAll_144 ?_
      refine rs_i2 dX12_doesAll_145 rfl trivial ?_
      refine ar_goto 9 dX12_doesAll_146 (by decide) ?_
      exact am_V.wk (am_s (am_s (am_s (am_s (am_s (am_n am_0)))))) ((lp_in H).1 _ _ _ _ _ rfl)
  · subst e
    rw [s_X12_doesAll] at H
    refine rs_i5 dX12_doesAll_170 rfl trivial ?_
    refine rl_i1 dX12_doesAll_172 ?_
    refine rl_i4 dX12_doesAll_173 ?_
    obtain ⟨a1, e1, H⟩ := wp_b H
    refine rc_S1i dX12_doesAll_175 ml_X12_75 mc_X12_truth (c_X12_truth e1) rfl rfl rfl ?_
    refine ar_iadd dX12_doesAll_178 ?_
    refine rs_i1 dX12_doesAll_179 rfl trivial ?_
    refine rn_1_3 dX12_doesAll_180 rfl trivial ?_
    refine ar_goto 9 dX12_doesAll_183 (by decide) ?_
    exact am_V.wk (am_s (am_s (am_s (am_s (am_s (am_n am_0)))))) ((lp_in H).1 _ _ _ _ _ rfl)
theorem c_X12_doesAll  {h : am_H} {a : Int32 × am_H} (e : f_X12_doesAll h = some a) : am_Mi yX12_doesAll cX12_doesAll 6 (some .int) 10 220 [am_r (.inl 0) 0] h a.1 a.2 := by
  refine am_M.ofi (A := [some (am_r (.inl 0) 0), none, none, none, none, none]) (by decide +kernel) rfl (ble rfl) (fun Q hQ => ?_)
  have H : wp (f_X12_doesAll h) (fun a => Q (some (am_i a.1)) a.2) := ⟨a, e, hQ⟩
  unfold f_X12_doesAll at H
  refine ar_iconst (iI (0)) dX12_doesAll_0 rfl ?_
  refine rs_i1 dX12_doesAll_1 rfl trivial ?_
  refine ar_iconst (iI (0)) dX12_doesAll_2 rfl ?_
  refine rs_i2 dX12_doesAll_3 rfl trivial ?_
  refine ar_iconst (iI (0)) dX12_doesAll_4 rfl ?_
  refine rs_i3 dX12_doesAll_5 rfl trivial ?_
  refine ar_iconst (iI (1)) dX12_doesAll_6 rfl ?_
  refine rs_i4 dX12_doesAll_7 rfl trivial ?_
  exact am_V.wk (am_s (am_s (am_s (am_s (am_s (am_n am_0)))))) ((c_X12_doesAll_L  _ H).1 _ _ _ _ _ rfl)
noncomputable def s_X12_runScript  : am_S am_H → Option (am_S am_H ⊕ (Int32 × am_H)) := fun s => match s with
  | (19, [], [], [], h) => (f_X12_isGood h).bind (fun a1 => if a1 = 0 then (some (.inl (63, [], [], [], h))) else (if (h.1 (.inl 0) 0 6) = 0 then (some (.inl (63, [], [], [], h))) else ((f_X12_command h).bind (fun a2 => if (a2.1 (.inl 0) 0 33) = (h.1 (.inl 0) 0 33) then ((f_X12_mustSign (iI (59)) a2).bind (fun a3 => (f_X12_closes a3).bind (fun a4 => some (.inl (19, [], [], [], a4))))) else ((f_X12_closes a2).bind (fun a3 => some (.inl (19, [], [], [], a3))))))))
  | (63, [], [], [], h) => (f_X12_isGood h).bind (fun a1 => if a1 = 0 then (some (.inl (82, [], [], [], h))) else (if (h.1 (.inl 0) 0 33) ≤ 0 then (some (.inl (82, [], [], [], h))) else ((f_X12_wrong (iI (1)) h).bind (fun a2 => some (.inl (82, [], [], [], a2))))))
  | (82, [], [], [], h) => (f_X12_endsText h).bind (fun a1 => if a1.1 = 0 then (some (.inr (((iI (0)), a1.2)))) else ((f_X12_laysAside a1.2).bind (fun a2 => (f_X12_doesAll a2).bind (fun a3 => (f_X12_keeps a3.2).bind (fun a4 => some (.inr ((a3.1, a4))))))))
  | _ => none
noncomputable def f_X12_runScript_19   (h : am_H) : Option (Int32 × am_H) := lp (s_X12_runScript) (19, [], [], [], h)
noncomputable def f_X12_runScript_63   (h : am_H) : Option (Int32 × am_H) := lp (s_X12_runScript) (63, [], [], [], h)
noncomputable def f_X12_runScript_82   (h : am_H) : Option (Int32 × am_H) := lp (s_X12_runScript) (82, [], [], [], h)
theorem e_X12_runScript_19   (h : am_H) : f_X12_runScript_19 h = ((f_X12_isGood h).bind (fun a1 => if a1 = 0 then (f_X12_runScript_63 h) else (if (h.1 (.inl 0) 0 6) = 0 then (f_X12_runScript_63 h) else ((f_X12_command h).bind (fun a2 => if (a2.1 (.inl 0) 0 33) = (h.1 (.inl 0) 0 33) then ((f_X12_mustSign (iI (59)) a2).bind (fun a3 => (f_X12_closes a3).bind (fun a4 => f_X12_runScript_19 a4))) else ((f_X12_closes a2).bind (fun a3 => f_X12_runScript_19 a3))))))) := by
  show lp _ _ = _
  rw [lp_eq, s_X12_runScript]
  simp only [lpk_i, lpk_b, lpk_l, lpk_n, lpk_j, lpk_r] <;> rfl
theorem e_X12_runScript_63   (h : am_H) : f_X12_runScript_63 h = ((f_X12_isGood h).bind (fun a1 => if a1 = 0 then (f_X12_runScript_82 h) else (if (h.1 (.inl 0) 0 33) ≤ 0 then (f_X12_runScript_82 h) else ((f_X12_wrong (iI (1)) h).bind (fun a2 => f_X12_runScript_82 a2))))) := by
  show lp _ _ = _
  rw [lp_eq, s_X12_runScript]
  simp only [lpk_i, lpk_b, lpk_l, lpk_n, lpk_j, lpk_r] <;> rfl
theorem e_X12_runScript_82   (h : am_H) : f_X12_runScript_82 h = ((f_X12_endsText h).bind (fun a1 => if a1.1 = 0 then (some (((iI (0)), a1.2))) else ((f_X12_laysAside a1.2).bind (fun a2 => (f_X12_doesAll a2).bind (fun a3 => (f_X12_keeps a3.2).bind (fun a4 => some ((a3.1, a4)))))))) := by
  show lp _ _ = _
  rw [lp_eq, s_X12_runScript]
  simp only [lpk_i, lpk_b, lpk_l, lpk_n, lpk_j, lpk_r] <;> rfl
noncomputable def f_X12_runScript  (h : am_H) : Option (Int32 × am_H) :=
  (f_X12_beginsText h).bind (fun a1 => am_lt (am_u a1 (.inl 0) 0 31 (iI (0))) (fun h1 => am_lt (am_u h1 (.inl 0) 0 32 (iI (0))) (fun h2 => am_lt (am_u h2 (.inl 0) 0 33 (iI (0))) (fun h3 => f_X12_runScript_19 h3))))
theorem c_X12_runScript_L  {Q : Option am_v → am_H → Prop} : ∀ s, wp (lp (s_X12_runScript) s) (fun a => Q (some (am_i a.1)) a.2) → ((∀ h, s = (19, [], [], [], h) → am_V RX12 cX12_runScript 2 (some .int) 11 245 0 0 none (am_Tm cX12_runScript (some .int) Q) 0 0 19 [some (am_r (.inl 0) 0), none] [] h) ∧ (∀ h, s = (63, [], [], [], h) → am_V RX12 cX12_runScript 2 (some .int) 11 245 0 0 none (am_Tm cX12_runScript (some .int) Q) 0 0 63 [some (am_r (.inl 0) 0), none] [] h) ∧ (∀ h, s = (82, [], [], [], h) → am_V RX12 cX12_runScript 2 (some .int) 11 245 0 0 none (am_Tm cX12_runScript (some .int) Q) 0 0 82 [some (am_r (.inl 0) 0), none] [] h)) := by
  refine lp_ind _ _ (fun s H => ⟨fun h e => ?_, fun h e => ?_, fun h e => ?_⟩)
  · subst e
    rw [s_X12_runScript] at H
    refine rl_a0 dX12_runScript_19 ?_
    obtain ⟨a1, e1, H⟩ := wp_b H
    refine rc_V0i dX12_runScript_20 ml_X12_127 mc_X12_isGood (c_X12_isGood e1) rfl rfl rfl (ok_M rfl) rfl rfl rfl ?_
    refine ar_if_eq 63 dX12_runScript_23 (by decide) (fun c1 => ?_) (fun c1 => ?_)
    · replace H := wp_t c1 H
      exact am_V.wk (am_s (am_n am_0)) ((lp_in H).2.1 _ rfl)
    · replace H := wp_f c1 H
      refine rl_a0 dX12_runScript_26 ?_
      refine ar_getI dX12_runScript_27 fg_X12_114 rfl rfl (ok_M rfl) ?_
      refine ar_if_eq 63 dX12_runScript_30 (by decide) (fun c2 => ?_) (fun c2 => ?_)
      · replace H := wp_t c2 H
        exact am_V.wk (am_s (am_n am_0)) ((lp_in H).2.1 _ rfl)
      · replace H := wp_f c2 H
        refine rl_a0 dX12_runScript_33 ?_
        refine ar_getI dX12_runScript_34 fg_X12_503 rfl rfl (ok_M rfl) ?_
        refine rs_i1 dX12_runScript_37 rfl trivial ?_
        refine rl_a0 dX12_runScript_38 ?_
        obtain ⟨a2, e2, H⟩ := wp_b H
        refine rc_V0v dX12_runScript_39 ml_X12_512 mc_X12_command (c_X12_command e2) rfl rfl rfl (ok_M rfl) rfl rfl rfl ?_
        refine rl_a0 dX12_runScript_42 ?_
        refine ar_getI dX12_runScript_43 fg_X12_503 rfl rfl (ok_M rfl) ?_
        refine rl_i1 dX12_runScript_46 ?_
        refine ar_ic_ne 56 dX12_runScript_47 (by decide) (fun c3 => ?_) (fun c3 => ?_)
        · replace H := wp_f c3 H
          refine rl_a0 dX12_runScript_56 ?_
          obtain ⟨a3, e3, H⟩ := wp_b H
          refine rc_V0v dX12_runScript_57 ml_X12_515 mc_X12_closes (c_X12_closes e3) rfl rfl rfl (ok_M rfl) rfl rfl rfl ?_
          refine ar_goto 19 dX12_runScript_60 (by decide) ?_
          exact am_V.wk (am_s (am_n am_0)) ((lp_in H).1 _ rfl)
        · replace H := wp_t c3 H
          refine rl_a0 dX12_runScript_50 ?_
          refine ar_bipush (iI (59)) dX12_runScript_51 rfl ?_
          obtain ⟨a3, e3, H⟩ := wp_b H
          refine rc_V1v dX12_runScript_53 ml_X12_241 mc_X12_mustSign (c_X12_mustSign e3) rfl rfl rfl (ok_M rfl) rfl rfl rfl ?_
          refine rl_a0 dX12_runScript_56 ?_
          obtain ⟨a4, e4, H⟩ := wp_b H
          refine rc_V0v dX12_runScript_57 ml_X12_515 mc_X12_closes (c_X12_closes e4) rfl rfl rfl (ok_M rfl) rfl rfl rfl ?_
          refine ar_goto 19 dX12_runScript_60 (by decide) ?_
          exact am_V.wk (am_s (am_n am_0)) ((lp_in H).1 _ rfl)
  · subst e
    rw [s_X12_runScript] at H
    refine rl_a0 dX12_runScript_63 ?_
    obtain ⟨a1, e1, H⟩ := wp_b H
    refine rc_V0i dX12_runScript_64 ml_X12_127 mc_X12_isGood (c_X12_isGood e1) rfl rfl rfl (ok_M rfl) rfl rfl rfl ?_
    refine ar_if_eq 82 dX12_runScript_67 (by decide) (fun c1 => ?_) (fun c1 => ?_)
    · replace H := wp_t c1 H
      exact am_V.wk (am_s (am_n am_0)) ((lp_in H).2.2 _ rfl)
    · replace H := wp_f c1 H
      refine rl_a0 dX12_runScript_70 ?_
      refine ar_getI dX12_runScript_71 fg_X12_503 rfl rfl (ok_M rfl) ?_
      refine ar_if_le 82 dX12_runScript_74 (by decide) (fun c2 => ?_) (fun c2 => ?_)
      · replace H := wp_t c2 H
        exact am_V.wk (am_s (am_n am_0)) ((lp_in H).2.2 _ rfl)
      · replace H := wp_f c2 H
        refine rl_a0 dX12_runScript_77 ?_
        refine ar_iconst (iI (1)) dX12_runScript_78 rfl ?_
        obtain ⟨a2, e2, H⟩ := wp_b H
        refine rc_V1v dX12_runScript_79 ml_X12_134 mc_X12_wrong (c_X12_wrong e2) rfl rfl rfl (ok_M rfl) rfl rfl rfl ?_
        exact am_V.wk (am_s (am_n am_0)) ((lp_in H).2.2 _ rfl)
  · subst e
    rw [s_X12_runScript] at H
    refine rl_a0 dX12_runScript_82 ?_
    obtain ⟨a1, e1, H⟩ := wp_b H
    refine rc_V0i dX12_runScript_83 ml_X12_253 mc_X12_endsText (c_X12_endsText e1) rfl rfl rfl (ok_M rfl) rfl rfl rfl ?_
    refine ar_if_ne 91 dX12_runScript_86 (by decide) (fun c1 => ?_) (fun c1 => ?_)
    · replace H := wp_f c1 H
      refine rl_a0 dX12_runScript_91 ?_
      obtain ⟨a2, e2, H⟩ := wp_b H
      refine rc_V0v dX12_runScript_92 ml_X12_247 mc_X12_laysAside (c_X12_laysAside e2) rfl rfl rfl (ok_M rfl) rfl rfl rfl ?_
      refine rl_a0 dX12_runScript_95 ?_
      obtain ⟨a3, e3, H⟩ := wp_b H
      refine rc_V0i dX12_runScript_96 ml_X12_518 mc_X12_doesAll (c_X12_doesAll e3) rfl rfl rfl (ok_M rfl) rfl rfl rfl ?_
      refine rs_i1 dX12_runScript_99 rfl trivial ?_
      refine rl_a0 dX12_runScript_100 ?_
      obtain ⟨a4, e4, H⟩ := wp_b H
      refine rc_V0v dX12_runScript_101 ml_X12_158 mc_X12_keeps (c_X12_keeps e4) rfl rfl rfl (ok_M rfl) rfl rfl rfl ?_
      refine rl_i1 dX12_runScript_104 ?_
      replace H := lp_re H
      exact ar_iret dX12_runScript_105 rfl rfl H
    · replace H := wp_t c1 H
      refine ar_iconst (iI (0)) dX12_runScript_89 rfl ?_
      replace H := lp_re H
      exact ar_iret dX12_runScript_90 rfl rfl H
theorem c_X12_runScript  {h : am_H} {a : Int32 × am_H} (e : f_X12_runScript h = some a) : am_Mi yX12_runScript cX12_runScript 2 (some .int) 11 245 [am_r (.inl 0) 0] h a.1 a.2 := by
  refine am_M.ofi (A := [some (am_r (.inl 0) 0), none]) (by decide +kernel) rfl (ble rfl) (fun Q hQ => ?_)
  have H : wp (f_X12_runScript h) (fun a => Q (some (am_i a.1)) a.2) := ⟨a, e, hQ⟩
  unfold f_X12_runScript at H
  refine rl_a0 dX12_runScript_0 ?_
  obtain ⟨a1, e1, H⟩ := wp_b H
  refine rc_V0v dX12_runScript_1 ml_X12_244 mc_X12_beginsText (c_X12_beginsText e1) rfl rfl rfl (ok_M rfl) rfl rfl rfl ?_
  refine rl_a0 dX12_runScript_4 ?_
  refine ar_iconst (iI (0)) dX12_runScript_5 rfl ?_
  refine ar_putI dX12_runScript_6 fg_X12_509 rfl rfl (ok_M rfl) rfl rfl ?_
  replace H := wp_l H
  generalize am_u a1 (.inl 0) 0 31 (iI (0)) = h1 at H ⊢
  refine rl_a0 dX12_runScript_9 ?_
  refine ar_iconst (iI (0)) dX12_runScript_10 rfl ?_
  refine ar_putI dX12_runScript_11 fg_X12_506 rfl rfl (ok_M rfl) rfl rfl ?_
  replace H := wp_l H
  generalize am_u h1 (.inl 0) 0 32 (iI (0)) = h2 at H ⊢
  refine rl_a0 dX12_runScript_14 ?_
  refine ar_iconst (iI (0)) dX12_runScript_15 rfl ?_
  refine ar_putI dX12_runScript_16 fg_X12_503 rfl rfl (ok_M rfl) rfl rfl ?_
  replace H := wp_l H
  generalize am_u h2 (.inl 0) 0 33 (iI (0)) = h3 at H ⊢
  exact am_V.wk (am_s (am_n am_0)) ((c_X12_runScript_L  _ H).1 _ rfl)
noncomputable def f_X12_tell (x1 : Int32) (h : am_H) : Option am_H :=
  if ib (h.1 (.inl 0) 0 35) 400 then (am_lt (am_u h (.inl 0) 17 (((h.1 (.inl 0) 0 35)).toNatClampNeg) x1) (fun h1 => am_lt (am_u h1 (.inl 0) 0 35 ((h1.1 (.inl 0) 0 35) + (iI (1)))) (fun h2 => some (h2)))) else none
theorem c_X12_tell {x1 : Int32} {h : am_H} {a : am_H} (e : f_X12_tell x1 h = some a) : am_Mv yX12_tell cX12_tell 2 (none) 0 0 [am_r (.inl 0) 0, am_i x1] h a := by
  refine am_M.ofv (A := [some (am_r (.inl 0) 0), some (am_i x1)]) (by decide +kernel) rfl (ble rfl) (fun Q hQ => ?_)
  have H : wp (f_X12_tell x1 h) (fun a => Q none a) := ⟨a, e, hQ⟩
  unfold f_X12_tell at H
  refine rl_a0 dX12_tell_0 ?_
  refine rg_R (.inl 0) 17 dX12_tell_1 fg_X12_66 rfl rfl rfl (ok_M rfl) ?_
  refine rl_a0 dX12_tell_4 ?_
  refine ar_getI dX12_tell_5 fg_X12_527 rfl rfl (ok_M rfl) ?_
  refine rl_i1 dX12_tell_8 ?_
  obtain ⟨b1, H⟩ := wp_g H
  refine ar_iast dX12_tell_9 rfl (ok_M rfl) (ib_in b1) ?_
  replace H := wp_l H
  generalize am_u h (.inl 0) 17 (((h.1 (.inl 0) 0 35)).toNatClampNeg) x1 = h1 at H ⊢
  refine rl_a0 dX12_tell_10 ?_
  refine ar_dup dX12_tell_11 trivial ?_
  refine ar_getI dX12_tell_12 fg_X12_527 rfl rfl (ok_M rfl) ?_
  refine ar_iconst (iI (1)) dX12_tell_15 rfl ?_
  refine ar_iadd dX12_tell_16 ?_
  refine ar_putI dX12_tell_17 fg_X12_527 rfl rfl (ok_M rfl) rfl rfl ?_
  replace H := wp_l H
  generalize am_u h1 (.inl 0) 0 35 ((h1.1 (.inl 0) 0 35) + (iI (1))) = h2 at H ⊢
  replace H := wp_s H
  exact ar_vret dX12_tell_20 rfl H
noncomputable def s_X12_tellFlourish  : am_S am_H → Option (am_S am_H ⊕ am_H) := fun s => match s with
  | (8, [x1, x2], [], [], h) => if ib x1 6 then ((f_X12_lettersOf (h.2.1 (.inl 0) 7 x1.toNatClampNeg)).bind (fun a1 => if a1 ≤ x2 then ((f_X12_tell (iI (41)) h).bind (fun a2 => some (.inr (a2)))) else (if ib x1 6 then ((f_X12_letterOf (h.2.1 (.inl 0) 7 x1.toNatClampNeg) x2).bind (fun a2 => (f_X12_tell a2 h).bind (fun a3 => some (.inl (8, [x1, (x2 + 1)], [], [], a3))))) else none))) else none
  | _ => none
noncomputable def f_X12_tellFlourish_8  (x1 : Int32) (x2 : Int32) (h : am_H) : Option am_H := lp (s_X12_tellFlourish) (8, [x1, x2], [], [], h)
theorem e_X12_tellFlourish_8  (x1 : Int32) (x2 : Int32) (h : am_H) : f_X12_tellFlourish_8 x1 x2 h = (if ib x1 6 then ((f_X12_lettersOf (h.2.1 (.inl 0) 7 x1.toNatClampNeg)).bind (fun a1 => if a1 ≤ x2 then ((f_X12_tell (iI (41)) h).bind (fun a2 => some (a2))) else (if ib x1 6 then ((f_X12_letterOf (h.2.1 (.inl 0) 7 x1.toNatClampNeg) x2).bind (fun a2 => (f_X12_tell a2 h).bind (fun a3 => f_X12_tellFlourish_8 x1 (x2 + 1) a3))) else none))) else none) := by
  show lp _ _ = _
  rw [lp_eq, s_X12_tellFlourish]
  simp only [lpk_i, lpk_b, lpk_l, lpk_n, lpk_j, lpk_r] <;> rfl
noncomputable def f_X12_tellFlourish (x1 : Int32) (h : am_H) : Option am_H :=
  (f_X12_tell (iI (40)) h).bind (fun a1 => f_X12_tellFlourish_8 x1 (iI (0)) a1)
theorem c_X12_tellFlourish_L  {Q : Option am_v → am_H → Prop} : ∀ s, wp (lp (s_X12_tellFlourish) s) (fun a => Q none a) → ((∀ x1 x2 h, s = (8, [x1, x2], [], [], h) → am_V RX12 cX12_tellFlourish 3 (none) 2 48 0 0 none (am_Tm cX12_tellFlourish (none) Q) 0 0 8 [some (am_r (.inl 0) 0), some (am_i x1), some (am_i x2)] [] h)) := by
  refine lp_ind _ _ (fun s H => fun x1 x2 h e => ?_)
  · subst e
    rw [s_X12_tellFlourish] at H
    refine rl_i2 dX12_tellFlourish_8 ?_
    refine rl_a0 dX12_tellFlourish_9 ?_
    refine rg_R (.inl 0) 7 dX12_tellFlourish_10 fg_X12_35 rfl rfl rfl (ok_M rfl) ?_
    refine rl_i1 dX12_tellFlourish_13 ?_
    obtain ⟨b1, H⟩ := wp_g H
    refine ar_lald dX12_tellFlourish_14 rfl (ok_M rfl) (ib_in b1) ?_
    obtain ⟨a1, e1, H⟩ := wp_b H
    refine rc_S1i dX12_tellFlourish_15 ml_X12_169 mc_X12_lettersOf (c_X12_lettersOf e1) rfl rfl rfl ?_
    refine ar_ic_ge 41 dX12_tellFlourish_18 (by decide) (fun c1 => ?_) (fun c1 => ?_)
    · replace H := wp_t c1 H
      refine rl_a0 dX12_tellFlourish_41 ?_
      refine ar_bipush (iI (41)) dX12_tellFlourish_42 rfl ?_
      obtain ⟨a2, e2, H⟩ := wp_b H
      refine rc_V1v dX12_tellFlourish_44 ml_X12_530 mc_X12_tell (c_X12_tell e2) rfl rfl rfl (ok_M rfl) rfl rfl rfl ?_
      replace H := lp_re H
      exact ar_vret dX12_tellFlourish_47 rfl H
    · replace H := wp_f c1 H
      refine rl_a0 dX12_tellFlourish_21 ?_
      refine rl_a0 dX12_tellFlourish_22 ?_
      refine rg_R (.inl 0) 7 dX12_tellFlourish_23 fg_X12_35 rfl rfl rfl (ok_M rfl) ?_
      refine rl_i1 dX12_tellFlourish_26 ?_
      obtain ⟨b2, H⟩ := wp_g H
      refine ar_lald dX12_tellFlourish_27 rfl (ok_M rfl) (ib_in b2) ?_
      refine rl_i2 dX12_tellFlourish_28 ?_
      obtain ⟨a2, e2, H⟩ := wp_b H
      refine rc_S2i dX12_tellFlourish_29 ml_X12_193 mc_X12_letterOf (c_X12_letterOf e2) rfl rfl rfl ?_
      obtain ⟨a3, e3, H⟩ := wp_b H
      refine rc_V1v dX12_tellFlourish_32 ml_X12_530 mc_X12_tell (c_X12_tell e3) rfl rfl rfl (ok_M rfl) rfl rfl rfl ?_
      refine rn_1_2 dX12_tellFlourish_35 rfl trivial ?_
      refine ar_goto 8 dX12_tellFlourish_38 (by decide) ?_
      exact am_V.wk (am_s (am_s (am_s am_0))) ((lp_in H) _ _ _ rfl)
theorem c_X12_tellFlourish {x1 : Int32} {h : am_H} {a : am_H} (e : f_X12_tellFlourish x1 h = some a) : am_Mv yX12_tellFlourish cX12_tellFlourish 3 (none) 2 48 [am_r (.inl 0) 0, am_i x1] h a := by
  refine am_M.ofv (A := [some (am_r (.inl 0) 0), some (am_i x1), none]) (by decide +kernel) rfl (ble rfl) (fun Q hQ => ?_)
  have H : wp (f_X12_tellFlourish x1 h) (fun a => Q none a) := ⟨a, e, hQ⟩
  unfold f_X12_tellFlourish at H
  refine rl_a0 dX12_tellFlourish_0 ?_
  refine ar_bipush (iI (40)) dX12_tellFlourish_1 rfl ?_
  obtain ⟨a1, e1, H⟩ := wp_b H
  refine rc_V1v dX12_tellFlourish_3 ml_X12_530 mc_X12_tell (c_X12_tell e1) rfl rfl rfl (ok_M rfl) rfl rfl rfl ?_
  refine ar_iconst (iI (0)) dX12_tellFlourish_6 rfl ?_
  refine rs_i2 dX12_tellFlourish_7 rfl trivial ?_
  exact am_V.wk (am_s (am_s (am_s am_0))) ((c_X12_tellFlourish_L  _ H) _ _ _ rfl)
noncomputable def s_X12_tellLetter  : am_S am_H → Option (am_S am_H ⊕ am_H) := fun s => match s with
  | (22, [x1, y1, y2], [], [], h) => (f_X12_tell (y1 + y2) h).bind (fun a1 => (f_X12_isSpoiled x1 a1).bind (fun a2 => if a2 = 0 then (some (.inl (42, [x1, (iI (0))], [], [], a1))) else ((f_X12_tell (iI (33)) a1).bind (fun a3 => some (.inl (42, [x1, (iI (0))], [], [], a3))))))
  | (42, [x1, x2], [], [], h) => (f_X12_scratchesOf x1 h).bind (fun a1 => if a1 ≤ x2 then (some (.inr (h))) else ((f_X12_tell (iI (42)) h).bind (fun a2 => some (.inl (42, [x1, (x2 + 1)], [], [], a2)))))
  | _ => none
noncomputable def f_X12_tellLetter_22  (x1 : Int32) (y1 : Int32) (y2 : Int32) (h : am_H) : Option am_H := lp (s_X12_tellLetter) (22, [x1, y1, y2], [], [], h)
noncomputable def f_X12_tellLetter_42  (x1 : Int32) (x2 : Int32) (h : am_H) : Option am_H := lp (s_X12_tellLetter) (42, [x1, x2], [], [], h)
theorem e_X12_tellLetter_22  (x1 : Int32) (y1 : Int32) (y2 : Int32) (h : am_H) : f_X12_tellLetter_22 x1 y1 y2 h = ((f_X12_tell (y1 + y2) h).bind (fun a1 => (f_X12_isSpoiled x1 a1).bind (fun a2 => if a2 = 0 then (f_X12_tellLetter_42 x1 (iI (0)) a1) else ((f_X12_tell (iI (33)) a1).bind (fun a3 => f_X12_tellLetter_42 x1 (iI (0)) a3))))) := by
  show lp _ _ = _
  rw [lp_eq, s_X12_tellLetter]
  simp only [lpk_i, lpk_b, lpk_l, lpk_n, lpk_j, lpk_r] <;> rfl
theorem e_X12_tellLetter_42  (x1 : Int32) (x2 : Int32) (h : am_H) : f_X12_tellLetter_42 x1 x2 h = ((f_X12_scratchesOf x1 h).bind (fun a1 => if a1 ≤ x2 then (some (h)) else ((f_X12_tell (iI (42)) h).bind (fun a2 => f_X12_tellLetter_42 x1 (x2 + 1) a2)))) := by
  show lp _ _ = _
  rw [lp_eq, s_X12_tellLetter]
  simp only [lpk_i, lpk_b, lpk_l, lpk_n, lpk_j, lpk_r] <;> rfl
noncomputable def f_X12_tellLetter (x1 : Int32) (h : am_H) : Option am_H :=
  (f_X12_ofLetter x1 (iI (0)) h).bind (fun a1 => (f_X12_isPlanned x1 h).bind (fun a2 => if a2 = 0 then (f_X12_tellLetter_22 x1 a1 (iI (65)) h) else (f_X12_tellLetter_22 x1 a1 (iI (97)) h)))
theorem c_X12_tellLetter_L  {Q : Option am_v → am_H → Prop} : ∀ s, wp (lp (s_X12_tellLetter) s) (fun a => Q none a) → ((∀ x1 y1 y2 h, s = (22, [x1, y1, y2], [], [], h) → am_V RX12 cX12_tellLetter 3 (none) 9 196 0 0 none (am_Tm cX12_tellLetter (none) Q) 0 0 22 [some (am_r (.inl 0) 0), some (am_i x1), none] [am_i y2, am_i y1, am_r (.inl 0) 0] h) ∧ (∀ x1 x2 h, s = (42, [x1, x2], [], [], h) → am_V RX12 cX12_tellLetter 3 (none) 9 196 0 0 none (am_Tm cX12_tellLetter (none) Q) 0 0 42 [some (am_r (.inl 0) 0), some (am_i x1), some (am_i x2)] [] h)) := by
  refine lp_ind _ _ (fun s H => ⟨fun x1 y1 y2 h e => ?_, fun x1 x2 h e => ?_⟩)
  · subst e
    rw [s_X12_tellLetter] at H
    refine ar_iadd dX12_tellLetter_22 ?_
    obtain ⟨a1, e1, H⟩ := wp_b H
    refine rc_V1v dX12_tellLetter_23 ml_X12_530 mc_X12_tell (c_X12_tell e1) rfl rfl rfl (ok_M rfl) rfl rfl rfl ?_
    refine rl_a0 dX12_tellLetter_26 ?_
    refine rl_i1 dX12_tellLetter_27 ?_
    obtain ⟨a2, e2, H⟩ := wp_b H
    refine rc_V1i dX12_tellLetter_28 ml_X12_322 mc_X12_isSpoiled (c_X12_isSpoiled e2) rfl rfl rfl (ok_M rfl) rfl rfl rfl ?_
    refine ar_if_eq 40 dX12_tellLetter_31 (by decide) (fun c1 => ?_) (fun c1 => ?_)
    · replace H := wp_t c1 H
      refine ar_iconst (iI (0)) dX12_tellLetter_40 rfl ?_
      refine rs_i2 dX12_tellLetter_41 rfl trivial ?_
      exact am_V.wk (am_s (am_s (am_s am_0))) ((lp_in H).2 _ _ _ rfl)
    · replace H := wp_f c1 H
      refine rl_a0 dX12_tellLetter_34 ?_
      refine ar_bipush (iI (33)) dX12_tellLetter_35 rfl ?_
      obtain ⟨a3, e3, H⟩ := wp_b H
      refine rc_V1v dX12_tellLetter_37 ml_X12_530 mc_X12_tell (c_X12_tell e3) rfl rfl rfl (ok_M rfl) rfl rfl rfl ?_
      refine ar_iconst (iI (0)) dX12_tellLetter_40 rfl ?_
      refine rs_i2 dX12_tellLetter_41 rfl trivial ?_
      exact am_V.wk (am_s (am_s (am_s am_0))) ((lp_in H).2 _ _ _ rfl)
  · subst e
    rw [s_X12_tellLetter] at H
    refine rl_i2 dX12_tellLetter_42 ?_
    refine rl_a0 dX12_tellLetter_43 ?_
    refine rl_i1 dX12_tellLetter_44 ?_
    obtain ⟨a1, e1, H⟩ := wp_b H
    refine rc_V1i dX12_tellLetter_45 ml_X12_375 mc_X12_scratchesOf (c_X12_scratchesOf e1) rfl rfl rfl (ok_M rfl) rfl rfl rfl ?_
    refine ar_ic_ge 63 dX12_tellLetter_48 (by decide) (fun c1 => ?_) (fun c1 => ?_)
    · replace H := wp_t c1 H
      replace H := lp_re H
      exact ar_vret dX12_tellLetter_63 rfl H
    · replace H := wp_f c1 H
      refine rl_a0 dX12_tellLetter_51 ?_
      refine ar_bipush (iI (42)) dX12_tellLetter_52 rfl ?_
      obtain ⟨a2, e2, H⟩ := wp_b H
      refine rc_V1v dX12_tellLetter_54 ml_X12_530 mc_X12_tell (c_X12_tell e2) rfl rfl rfl (ok_M rfl) rfl rfl rfl ?_
      refine rn_1_2 dX12_tellLetter_57 rfl trivial ?_
      refine ar_goto 42 dX12_tellLetter_60 (by decide) ?_
      exact am_V.wk (am_s (am_s (am_s am_0))) ((lp_in H).2 _ _ _ rfl)
theorem c_X12_tellLetter {x1 : Int32} {h : am_H} {a : am_H} (e : f_X12_tellLetter x1 h = some a) : am_Mv yX12_tellLetter cX12_tellLetter 3 (none) 9 196 [am_r (.inl 0) 0, am_i x1] h a := by
  refine am_M.ofv (A := [some (am_r (.inl 0) 0), some (am_i x1), none]) (by decide +kernel) rfl (ble rfl) (fun Q hQ => ?_)
  have H : wp (f_X12_tellLetter x1 h) (fun a => Q none a) := ⟨a, e, hQ⟩
  unfold f_X12_tellLetter at H
  refine rl_a0 dX12_tellLetter_0 ?_
  refine rl_a0 dX12_tellLetter_1 ?_
  refine rl_i1 dX12_tellLetter_2 ?_
  refine ar_iconst (iI (0)) dX12_tellLetter_3 rfl ?_
  obtain ⟨a1, e1, H⟩ := wp_b H
  refine rc_V2i dX12_tellLetter_4 ml_X12_280 mc_X12_ofLetter (c_X12_ofLetter e1) rfl rfl rfl (ok_M rfl) rfl rfl rfl ?_
  refine rl_a0 dX12_tellLetter_7 ?_
  refine rl_i1 dX12_tellLetter_8 ?_
  obtain ⟨a2, e2, H⟩ := wp_b H
  refine rc_V1i dX12_tellLetter_9 ml_X12_443 mc_X12_isPlanned (c_X12_isPlanned e2) rfl rfl rfl (ok_M rfl) rfl rfl rfl ?_
  refine ar_if_eq 20 dX12_tellLetter_12 (by decide) (fun c1 => ?_) (fun c1 => ?_)
  · replace H := wp_t c1 H
    refine ar_bipush (iI (65)) dX12_tellLetter_20 rfl ?_
    exact am_V.wk (am_s (am_s (am_n am_0))) ((c_X12_tellLetter_L  _ H).1 _ _ _ _ rfl)
  · replace H := wp_f c1 H
    refine ar_bipush (iI (97)) dX12_tellLetter_15 rfl ?_
    refine ar_goto 22 dX12_tellLetter_17 (by decide) ?_
    exact am_V.wk (am_s (am_s (am_n am_0))) ((c_X12_tellLetter_L  _ H).1 _ _ _ _ rfl)
noncomputable def s_X12_report  : am_S am_H → Option (am_S am_H ⊕ (Int32 × am_H)) := fun s => match s with
  | (21, [x1], [], [], h) => if ib (iI (1)) 408 then (if (h.1 (.inl 0) 2 ((iI (1))).toNatClampNeg) < x1 then (some (.inr (((h.1 (.inl 0) 0 35), h)))) else (if ib x1 21 then (if (h.1 (.inl 0) 10 x1.toNatClampNeg) = (iI (-1)) then (some (.inl (51, [x1], [], [], h))) else (if ib x1 21 then ((f_X12_tellFlourish (h.1 (.inl 0) 10 x1.toNatClampNeg) h).bind (fun a1 => some (.inl (51, [x1], [], [], a1)))) else none)) else none)) else none
  | (51, [x1], [], [], h) => if ib (iI (1)) 408 then (if (h.1 (.inl 0) 2 ((iI (1))).toNatClampNeg) ≤ x1 then (some (.inl (21, [(x1 + 1)], [], [], h))) else ((f_X12_tellLetter x1 h).bind (fun a1 => some (.inl (21, [(x1 + 1)], [], [], a1))))) else none
  | _ => none
noncomputable def f_X12_report_21  (x1 : Int32) (h : am_H) : Option (Int32 × am_H) := lp (s_X12_report) (21, [x1], [], [], h)
noncomputable def f_X12_report_51  (x1 : Int32) (h : am_H) : Option (Int32 × am_H) := lp (s_X12_report) (51, [x1], [], [], h)
theorem e_X12_report_21  (x1 : Int32) (h : am_H) : f_X12_report_21 x1 h = (if ib (iI (1)) 408 then (if (h.1 (.inl 0) 2 ((iI (1))).toNatClampNeg) < x1 then (some (((h.1 (.inl 0) 0 35), h))) else (if ib x1 21 then (if (h.1 (.inl 0) 10 x1.toNatClampNeg) = (iI (-1)) then (f_X12_report_51 x1 h) else (if ib x1 21 then ((f_X12_tellFlourish (h.1 (.inl 0) 10 x1.toNatClampNeg) h).bind (fun a1 => f_X12_report_51 x1 a1)) else none)) else none)) else none) := by
  show lp _ _ = _
  rw [lp_eq, s_X12_report]
  simp only [lpk_i, lpk_b, lpk_l, lpk_n, lpk_j, lpk_r] <;> rfl
theorem e_X12_report_51  (x1 : Int32) (h : am_H) : f_X12_report_51 x1 h = (if ib (iI (1)) 408 then (if (h.1 (.inl 0) 2 ((iI (1))).toNatClampNeg) ≤ x1 then (f_X12_report_21 (x1 + 1) h) else ((f_X12_tellLetter x1 h).bind (fun a1 => f_X12_report_21 (x1 + 1) a1))) else none) := by
  show lp _ _ = _
  rw [lp_eq, s_X12_report]
  simp only [lpk_i, lpk_b, lpk_l, lpk_n, lpk_j, lpk_r] <;> rfl
noncomputable def f_X12_report  (h : am_H) : Option (Int32 × am_H) :=
  am_lt (am_u h (.inl 0) 0 0 (iI (0))) (fun h1 => am_lt (am_u h1 (.inl 0) 0 35 (iI (0))) (fun h2 => am_lt (am_u h2 (.inl 0) 0 36 (iI (1))) (fun h3 => (f_X12_laysFlourishes h3).bind (fun a1 => f_X12_report_21 (iI (0)) a1))))
theorem c_X12_report_L  {Q : Option am_v → am_H → Prop} : ∀ s, wp (lp (s_X12_report) s) (fun a => Q (some (am_i a.1)) a.2) → ((∀ x1 h, s = (21, [x1], [], [], h) → am_V RX12 cX12_report 2 (some .int) 10 218 0 0 none (am_Tm cX12_report (some .int) Q) 0 0 21 [some (am_r (.inl 0) 0), some (am_i x1)] [] h) ∧ (∀ x1 h, s = (51, [x1], [], [], h) → am_V RX12 cX12_report 2 (some .int) 10 218 0 0 none (am_Tm cX12_report (some .int) Q) 0 0 51 [some (am_r (.inl 0) 0), some (am_i x1)] [] h)) := by
  refine lp_ind _ _ (fun s H => ⟨fun x1 h e => ?_, fun x1 h e => ?_⟩)
  · subst e
    rw [s_X12_report] at H
    refine rl_i1 dX12_report_21 ?_
    refine rl_a0 dX12_report_22 ?_
    refine rg_R (.inl 0) 2 dX12_report_23 fg_X12_20 rfl rfl rfl (ok_M rfl) ?_
    refine ar_iconst (iI (1)) dX12_report_26 rfl ?_
    obtain ⟨b1, H⟩ := wp_g H
    refine ar_iald dX12_report_27 rfl (ok_M rfl) (ib_in b1) ?_
    refine ar_ic_gt 72 dX12_report_28 (by decide) (fun c1 => ?_) (fun c1 => ?_)
    · replace H := wp_t c1 H
      refine rl_a0 dX12_report_72 ?_
      refine ar_getI dX12_report_73 fg_X12_527 rfl rfl (ok_M rfl) ?_
      replace H := lp_re H
      exact ar_iret dX12_report_76 rfl rfl H
    · replace H := wp_f c1 H
      refine rl_a0 dX12_report_31 ?_
      refine rg_R (.inl 0) 10 dX12_report_32 fg_X12_45 rfl rfl rfl (ok_M rfl) ?_
      refine rl_i1 dX12_report_35 ?_
      obtain ⟨b2, H⟩ := wp_g H
      refine ar_iald dX12_report_36 rfl (ok_M rfl) (ib_in b2) ?_
      refine ar_iconst (iI (-1)) dX12_report_37 rfl ?_
      refine ar_ic_eq 51 dX12_report_38 (by decide) (fun c2 => ?_) (fun c2 => ?_)
      · replace H := wp_t c2 H
        exact am_V.wk (am_s (am_s am_0)) ((lp_in H).2 _ _ rfl)
      · replace H := wp_f c2 H
        refine rl_a0 dX12_report_41 ?_
        refine rl_a0 dX12_report_42 ?_
        refine rg_R (.inl 0) 10 dX12_report_43 fg_X12_45 rfl rfl rfl (ok_M rfl) ?_
        refine rl_i1 dX12_report_46 ?_
        obtain ⟨b3, H⟩ := wp_g H
        refine ar_iald dX12_report_47 rfl (ok_M rfl) (ib_in b3) ?_
        obtain ⟨a1, e1, H⟩ := wp_b H
        refine rc_V1v dX12_report_48 ml_X12_536 mc_X12_tellFlourish (c_X12_tellFlourish e1) rfl rfl rfl (ok_M rfl) rfl rfl rfl ?_
        exact am_V.wk (am_s (am_s am_0)) ((lp_in H).2 _ _ rfl)
  · subst e
    rw [s_X12_report] at H
    refine rl_i1 dX12_report_51 ?_
    refine rl_a0 dX12_report_52 ?_
    refine rg_R (.inl 0) 2 dX12_report_53 fg_X12_20 rfl rfl rfl (ok_M rfl) ?_
    refine ar_iconst (iI (1)) dX12_report_56 rfl ?_
    obtain ⟨b1, H⟩ := wp_g H
    refine ar_iald dX12_report_57 rfl (ok_M rfl) (ib_in b1) ?_
    refine ar_ic_ge 66 dX12_report_58 (by decide) (fun c1 => ?_) (fun c1 => ?_)
    · replace H := wp_t c1 H
      refine rn_1_1 dX12_report_66 rfl trivial ?_
      refine ar_goto 21 dX12_report_69 (by decide) ?_
      exact am_V.wk (am_s (am_s am_0)) ((lp_in H).1 _ _ rfl)
    · replace H := wp_f c1 H
      refine rl_a0 dX12_report_61 ?_
      refine rl_i1 dX12_report_62 ?_
      obtain ⟨a1, e1, H⟩ := wp_b H
      refine rc_V1v dX12_report_63 ml_X12_539 mc_X12_tellLetter (c_X12_tellLetter e1) rfl rfl rfl (ok_M rfl) rfl rfl rfl ?_
      refine rn_1_1 dX12_report_66 rfl trivial ?_
      refine ar_goto 21 dX12_report_69 (by decide) ?_
      exact am_V.wk (am_s (am_s am_0)) ((lp_in H).1 _ _ rfl)
theorem c_X12_report  {h : am_H} {a : Int32 × am_H} (e : f_X12_report h = some a) : am_Mi yX12_report cX12_report 2 (some .int) 10 218 [am_r (.inl 0) 0] h a.1 a.2 := by
  refine am_M.ofi (A := [some (am_r (.inl 0) 0), none]) (by decide +kernel) rfl (ble rfl) (fun Q hQ => ?_)
  have H : wp (f_X12_report h) (fun a => Q (some (am_i a.1)) a.2) := ⟨a, e, hQ⟩
  unfold f_X12_report at H
  refine rl_a0 dX12_report_0 ?_
  refine ar_iconst (iI (0)) dX12_report_1 rfl ?_
  refine ar_putI dX12_report_2 fg_X12_72 rfl rfl (ok_M rfl) rfl rfl ?_
  replace H := wp_l H
  generalize am_u h (.inl 0) 0 0 (iI (0)) = h1 at H ⊢
  refine rl_a0 dX12_report_5 ?_
  refine ar_iconst (iI (0)) dX12_report_6 rfl ?_
  refine ar_putI dX12_report_7 fg_X12_527 rfl rfl (ok_M rfl) rfl rfl ?_
  replace H := wp_l H
  generalize am_u h1 (.inl 0) 0 35 (iI (0)) = h2 at H ⊢
  refine rl_a0 dX12_report_10 ?_
  refine ar_iconst (iI (1)) dX12_report_11 rfl ?_
  refine ar_putI dX12_report_12 fg_X12_533 rfl rfl (ok_M rfl) rfl rfl ?_
  replace H := wp_l H
  generalize am_u h2 (.inl 0) 0 36 (iI (1)) = h3 at H ⊢
  refine rl_a0 dX12_report_15 ?_
  obtain ⟨a1, e1, H⟩ := wp_b H
  refine rc_V0v dX12_report_16 ml_X12_395 mc_X12_laysFlourishes (c_X12_laysFlourishes e1) rfl rfl rfl (ok_M rfl) rfl rfl rfl ?_
  refine ar_iconst (iI (0)) dX12_report_19 rfl ?_
  refine rs_i1 dX12_report_20 rfl trivial ?_
  exact am_V.wk (am_s (am_s am_0)) ((c_X12_report_L  _ H).1 _ _ rfl)
noncomputable def f_X12_reportByte_29  (x1 : Int32) (y1 : Int32) (h : am_H) : Option (Int32 × am_H) :=
  (f_X12_goes y1 h).bind (fun a1 => if a1.1 = 0 then (some (((iI (0)), a1.2))) else (if ib x1 400 then (some (((a1.2.1 (.inl 0) 17 x1.toNatClampNeg), a1.2))) else none))
noncomputable def f_X12_reportByte (x1 : Int32) (h : am_H) : Option (Int32 × am_H) :=
  if (h.1 (.inl 0) 0 36) = 0 then (f_X12_reportByte_29 x1 (iI (0)) h) else ((f_X12_isIn x1.toInt64 (0 : Int64) (((h.1 (.inl 0) 0 35) - (iI (1))).toInt64)).bind (fun a1 => if a1 = 0 then (f_X12_reportByte_29 x1 (iI (0)) h) else (f_X12_reportByte_29 x1 (iI (1)) h)))
theorem c_X12_reportByte_29  {x1 : Int32} {y1 : Int32} {h : am_H} {Q : Option am_v → am_H → Prop} (H : wp (f_X12_reportByte_29 x1 y1 h) (fun a => Q (some (am_i a.1)) a.2)) : am_V RX12 cX12_reportByte 2 (some .int) 2 41 0 0 none (am_Tm cX12_reportByte (some .int) Q) 0 0 29 [some (am_r (.inl 0) 0), some (am_i x1)] [am_i y1, am_r (.inl 0) 0] h := by
  unfold f_X12_reportByte_29 at H
  obtain ⟨a1, e1, H⟩ := wp_b H
  refine rc_V1i dX12_reportByte_29 ml_X12_82 mc_X12_goes (c_X12_goes e1) rfl rfl rfl (ok_M rfl) rfl rfl rfl ?_
  refine ar_if_eq 44 dX12_reportByte_32 (by decide) (fun c1 => ?_) (fun c1 => ?_)
  · replace H := wp_t c1 H
    refine ar_iconst (iI (0)) dX12_reportByte_44 rfl ?_
    replace H := wp_s H
    exact ar_iret dX12_reportByte_45 rfl rfl H
  · replace H := wp_f c1 H
    refine rl_a0 dX12_reportByte_35 ?_
    refine rg_R (.inl 0) 17 dX12_reportByte_36 fg_X12_66 rfl rfl rfl (ok_M rfl) ?_
    refine rl_i1 dX12_reportByte_39 ?_
    obtain ⟨b1, H⟩ := wp_g H
    refine ar_iald dX12_reportByte_40 rfl (ok_M rfl) (ib_in b1) ?_
    refine ar_goto 45 dX12_reportByte_41 (by decide) ?_
    replace H := wp_s H
    exact ar_iret dX12_reportByte_45 rfl rfl H
theorem c_X12_reportByte {x1 : Int32} {h : am_H} {a : Int32 × am_H} (e : f_X12_reportByte x1 h = some a) : am_Mi yX12_reportByte cX12_reportByte 2 (some .int) 2 41 [am_r (.inl 0) 0, am_i x1] h a.1 a.2 := by
  refine am_M.ofi (A := [some (am_r (.inl 0) 0), some (am_i x1)]) (by decide +kernel) rfl (ble rfl) (fun Q hQ => ?_)
  have H : wp (f_X12_reportByte x1 h) (fun a => Q (some (am_i a.1)) a.2) := ⟨a, e, hQ⟩
  unfold f_X12_reportByte at H
  refine rl_a0 dX12_reportByte_0 ?_
  refine rl_a0 dX12_reportByte_1 ?_
  refine ar_getI dX12_reportByte_2 fg_X12_533 rfl rfl (ok_M rfl) ?_
  refine ar_if_eq 28 dX12_reportByte_5 (by decide) (fun c1 => ?_) (fun c1 => ?_)
  · replace H := wp_t c1 H
    refine ar_iconst (iI (0)) dX12_reportByte_28 rfl ?_
    exact am_V.wk (am_s (am_s am_0)) (c_X12_reportByte_29  H)
  · replace H := wp_f c1 H
    refine rl_i1 dX12_reportByte_8 ?_
    refine ar_i2l dX12_reportByte_9 ?_
    refine ar_lconst (0 : Int64) dX12_reportByte_10 rfl ?_
    refine rl_a0 dX12_reportByte_11 ?_
    refine ar_getI dX12_reportByte_12 fg_X12_527 rfl rfl (ok_M rfl) ?_
    refine ar_iconst (iI (1)) dX12_reportByte_15 rfl ?_
    refine ar_isub dX12_reportByte_16 ?_
    refine ar_i2l dX12_reportByte_17 ?_
    obtain ⟨a1, e1, H⟩ := wp_b H
    refine rc_S3i dX12_reportByte_18 ml_X12_90 mc_X12_isIn (c_X12_isIn e1) rfl rfl rfl ?_
    refine ar_if_eq 28 dX12_reportByte_21 (by decide) (fun c2 => ?_) (fun c2 => ?_)
    · replace H := wp_t c2 H
      refine ar_iconst (iI (0)) dX12_reportByte_28 rfl ?_
      exact am_V.wk (am_s (am_s am_0)) (c_X12_reportByte_29  H)
    · replace H := wp_f c2 H
      refine ar_iconst (iI (1)) dX12_reportByte_24 rfl ?_
      refine ar_goto 29 dX12_reportByte_25 (by decide) ?_
      exact am_V.wk (am_s (am_s am_0)) (c_X12_reportByte_29  H)
