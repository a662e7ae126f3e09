noncomputable def f_X8_addStep (x1 : Int32) (x2 : Int32) (h : am_H) : Option am_H :=
  if (iI (60)) ≤ (h.1 (.inl 1) 11 4) then (some (h)) else (if ib (h.1 (.inl 1) 11 4) 60 then (am_lt (am_u h (.inl 1) 12 (((h.1 (.inl 1) 11 4)).toNatClampNeg) x1) (fun h1 => if ib (h1.1 (.inl 1) 11 4) 60 then (am_lt (am_u h1 (.inl 1) 13 (((h1.1 (.inl 1) 11 4)).toNatClampNeg) x2) (fun h2 => am_lt (am_u h2 (.inl 1) 11 4 ((h2.1 (.inl 1) 11 4) + (iI (1)))) (fun h3 => some (h3)))) else none)) else none)
theorem c_X8_addStep {x1 : Int32} {x2 : Int32} {h : am_H} {a : am_H} (e : f_X8_addStep x1 x2 h = some a) : am_Mv yX8_addStep cX8_addStep 3 (none) 0 0 [am_r (.inl 1) 11, am_i x1, am_i x2] h a := by
  refine am_M.ofv (A := [some (am_r (.inl 1) 11), some (am_i x1), some (am_i x2)]) (by decide +kernel) rfl (ble rfl) (fun Q hQ => ?_)
  have H : wp (f_X8_addStep x1 x2 h) (fun a => Q none a) := ⟨a, e, hQ⟩
  unfold f_X8_addStep at H
  refine rl_a0 dX8_addStep_0 ?_
  refine ar_getI dX8_addStep_1 fg_X8_24 rfl rfl (ok_X rfl) ?_
  refine ar_bipush (iI (60)) dX8_addStep_4 rfl ?_
  refine ar_ic_ge 39 dX8_addStep_6 (by decide) (fun c1 => ?_) (fun c1 => ?_)
  · replace H := wp_t c1 H
    replace H := wp_s H
    exact ar_vret dX8_addStep_39 rfl H
  · replace H := wp_f c1 H
    refine rl_a0 dX8_addStep_9 ?_
    refine rg_R (.inl 1) 12 dX8_addStep_10 fg_X8_11 rfl rfl rfl (ok_X rfl) ?_
    refine rl_a0 dX8_addStep_13 ?_
    refine ar_getI dX8_addStep_14 fg_X8_24 rfl rfl (ok_X rfl) ?_
    refine rl_i1 dX8_addStep_17 ?_
    obtain ⟨b1, H⟩ := wp_g H
    refine ar_iast dX8_addStep_18 rfl (ok_X rfl) (ib_in b1) ?_
    replace H := wp_l H
    generalize am_u h (.inl 1) 12 (((h.1 (.inl 1) 11 4)).toNatClampNeg) x1 = h1 at H ⊢
    refine rl_a0 dX8_addStep_19 ?_
    refine rg_R (.inl 1) 13 dX8_addStep_20 fg_X8_15 rfl rfl rfl (ok_X rfl) ?_
    refine rl_a0 dX8_addStep_23 ?_
    refine ar_getI dX8_addStep_24 fg_X8_24 rfl rfl (ok_X rfl) ?_
    refine rl_i2 dX8_addStep_27 ?_
    obtain ⟨b2, H⟩ := wp_g H
    refine ar_iast dX8_addStep_28 rfl (ok_X rfl) (ib_in b2) ?_
    replace H := wp_l H
    generalize am_u h1 (.inl 1) 13 (((h1.1 (.inl 1) 11 4)).toNatClampNeg) x2 = h2 at H ⊢
    refine rl_a0 dX8_addStep_29 ?_
    refine ar_dup dX8_addStep_30 trivial ?_
    refine ar_getI dX8_addStep_31 fg_X8_24 rfl rfl (ok_X rfl) ?_
    refine ar_iconst (iI (1)) dX8_addStep_34 rfl ?_
    refine ar_iadd dX8_addStep_35 ?_
    refine ar_putI dX8_addStep_36 fg_X8_24 rfl rfl (ok_X rfl) rfl rfl ?_
    replace H := wp_l H
    generalize am_u h2 (.inl 1) 11 4 ((h2.1 (.inl 1) 11 4) + (iI (1))) = h3 at H ⊢
    replace H := wp_s H
    exact ar_vret dX8_addStep_39 rfl H
noncomputable def f_X8_readEnd  (h : am_H) : Option (Int32 × am_H) :=
  if (h.1 (.inl 1) 11 6) ≤ 0 then ((f_X10_advance h).bind (fun a1 => (f_X10_takeSign (iI (59)) a1).bind (fun a2 => if zb a2.1 then (some ((a2.1, a2.2))) else none))) else (am_lt (am_u h (.inl 1) 11 6 ((h.1 (.inl 1) 11 6) - (iI (1)))) (fun h1 => if ib (h1.1 (.inl 1) 11 6) 2 then ((f_X8_addStep (iI (7)) (h1.1 (.inl 1) 15 ((h1.1 (.inl 1) 11 6)).toNatClampNeg) h1).bind (fun a1 => (f_X10_advance a1).bind (fun a2 => (f_X10_takeSign (iI (59)) a2).bind (fun a3 => if zb a3.1 then (some ((a3.1, a3.2))) else none)))) else none))
theorem c_X8_readEnd  {h : am_H} {a : Int32 × am_H} (e : f_X8_readEnd h = some a) : am_Mi yX8_readEnd cX8_readEnd 2 (some .boolean) 4 85 [am_r (.inl 1) 11, am_r (.inl 1) 8] h a.1 a.2 := by
  refine am_M.ofi (A := [some (am_r (.inl 1) 11), some (am_r (.inl 1) 8)]) (by decide +kernel) rfl (ble rfl) (fun Q hQ => ?_)
  have H : wp (f_X8_readEnd h) (fun a => Q (some (am_i a.1)) a.2) := ⟨a, e, hQ⟩
  unfold f_X8_readEnd at H
  refine rl_a0 dX8_readEnd_0 ?_
  refine ar_getI dX8_readEnd_1 fg_X8_31 rfl rfl (ok_X rfl) ?_
  refine ar_if_le 32 dX8_readEnd_4 (by decide) (fun c1 => ?_) (fun c1 => ?_)
  · replace H := wp_t c1 H
    refine rl_a1 dX8_readEnd_32 ?_
    obtain ⟨a1, e1, H⟩ := wp_b H
    refine rc_V0v dX8_readEnd_33 ml_X8_62 mc_X10_advance (c_X10_advance e1) rfl rfl rfl (ok_X rfl) rfl rfl rfl ?_
    refine rl_a1 dX8_readEnd_36 ?_
    refine ar_bipush (iI (59)) dX8_readEnd_37 rfl ?_
    obtain ⟨a2, e2, H⟩ := wp_b H
    refine rc_V1i dX8_readEnd_39 ml_X8_79 mc_X10_takeSign (c_X10_takeSign e2) rfl rfl rfl (ok_X rfl) rfl rfl rfl ?_
    obtain ⟨b1, H⟩ := wp_g H
    replace H := wp_s H
    exact ar_iret dX8_readEnd_42 rfl (zb_n b1) H
  · replace H := wp_f c1 H
    refine rl_a0 dX8_readEnd_7 ?_
    refine ar_dup dX8_readEnd_8 trivial ?_
    refine ar_getI dX8_readEnd_9 fg_X8_31 rfl rfl (ok_X rfl) ?_
    refine ar_iconst (iI (1)) dX8_readEnd_12 rfl ?_
    refine ar_isub dX8_readEnd_13 ?_
    refine ar_putI dX8_readEnd_14 fg_X8_31 rfl rfl (ok_X rfl) rfl rfl ?_
    replace H := wp_l H
    generalize am_u h (.inl 1) 11 6 ((h.1 (.inl 1) 11 6) - (iI (1))) = h1 at H ⊢
    refine rl_a0 dX8_readEnd_17 ?_
    refine ar_bipush (iI (7)) dX8_readEnd_18 rfl ?_
    refine rl_a0 dX8_readEnd_20 ?_
    refine rg_R (.inl 1) 15 dX8_readEnd_21 fg_X8_21 rfl rfl rfl (ok_X rfl) ?_
    refine rl_a0 dX8_readEnd_24 ?_
    refine ar_getI dX8_readEnd_25 fg_X8_31 rfl rfl (ok_X rfl) ?_
    obtain ⟨b1, H⟩ := wp_g H
    refine ar_iald dX8_readEnd_28 rfl (ok_X rfl) (ib_in b1) ?_
    obtain ⟨a1, e1, H⟩ := wp_b H
    refine rc_V2v dX8_readEnd_29 ml_X8_75 mc_X8_addStep (c_X8_addStep e1) rfl rfl rfl (ok_X rfl) rfl rfl rfl ?_
    refine rl_a1 dX8_readEnd_32 ?_
    obtain ⟨a2, e2, H⟩ := wp_b H
    refine rc_V0v dX8_readEnd_33 ml_X8_62 mc_X10_advance (c_X10_advance e2) rfl rfl rfl (ok_X rfl) rfl rfl rfl ?_
    refine rl_a1 dX8_readEnd_36 ?_
    refine ar_bipush (iI (59)) dX8_readEnd_37 rfl ?_
    obtain ⟨a3, e3, H⟩ := wp_b H
    refine rc_V1i dX8_readEnd_39 ml_X8_79 mc_X10_takeSign (c_X10_takeSign e3) rfl rfl rfl (ok_X rfl) rfl rfl rfl ?_
    obtain ⟨b2, H⟩ := wp_g H
    replace H := wp_s H
    exact ar_iret dX8_readEnd_42 rfl (zb_n b2) H
noncomputable def f_X8_commandAt  (h : am_H) : Option Int32 :=
  (f_X10_isWord 9 h).bind (fun a1 => if a1 = 0 then ((f_X10_isWord 10 h).bind (fun a2 => if a2 = 0 then ((f_X10_isWord 11 h).bind (fun a3 => if a3 = 0 then ((f_X10_isWord 12 h).bind (fun a4 => if a4 = 0 then ((f_X10_isWord 13 h).bind (fun a5 => if a5 = 0 then ((f_X10_isWord 6 h).bind (fun a6 => if a6 = 0 then ((f_X10_isWord 14 h).bind (fun a7 => if a7 = 0 then (some ((iI (-1)))) else (some ((iI (6)))))) else (some ((iI (5)))))) else (some ((iI (4)))))) else (some ((iI (3)))))) else (some ((iI (2)))))) else (some ((iI (1)))))) else (some ((iI (0)))))
theorem c_X8_commandAt  {h : am_H} {a : Int32} (e : f_X8_commandAt h = some a) : am_Mi yX8_commandAt cX8_commandAt 1 (some .int) 5 107 [am_r (.inl 1) 8] h a h := by
  refine am_M.ofi (A := [some (am_r (.inl 1) 8)]) (by decide +kernel) rfl (ble rfl) (fun Q hQ => ?_)
  have H : wp (f_X8_commandAt h) (fun a => Q (some (am_i a)) h) := ⟨a, e, hQ⟩
  unfold f_X8_commandAt at H
  refine rl_a0 dX8_commandAt_0 ?_
  refine ar_ldcT dX8_commandAt_1 kt_X8_82 ?_
  obtain ⟨a1, e1, H⟩ := wp_b H
  refine rc_V1i dX8_commandAt_3 ml_X8_84 mc_X10_isWord (c_X10_isWord (by decide) e1) rfl rfl rfl (ok_X rfl) rfl rfl rfl ?_
  refine ar_if_eq 11 dX8_commandAt_6 (by decide) (fun c1 => ?_) (fun c1 => ?_)
  · replace H := wp_t c1 H
    refine rl_a0 dX8_commandAt_11 ?_
    refine ar_ldcT dX8_commandAt_12 kt_X8_88 ?_
    obtain ⟨a2, e2, H⟩ := wp_b H
    refine rc_V1i dX8_commandAt_14 ml_X8_84 mc_X10_isWord (c_X10_isWord (by decide) e2) rfl rfl rfl (ok_X rfl) rfl rfl rfl ?_
    refine ar_if_eq 22 dX8_commandAt_17 (by decide) (fun c2 => ?_) (fun c2 => ?_)
    · replace H := wp_t c2 H
      refine rl_a0 dX8_commandAt_22 ?_
      refine ar_ldcT dX8_commandAt_23 kt_X8_90 ?_
      obtain ⟨a3, e3, H⟩ := wp_b H
      refine rc_V1i dX8_commandAt_25 ml_X8_84 mc_X10_isWord (c_X10_isWord (by decide) e3) rfl rfl rfl (ok_X rfl) rfl rfl rfl ?_
      refine ar_if_eq 33 dX8_commandAt_28 (by decide) (fun c3 => ?_) (fun c3 => ?_)
      · replace H := wp_t c3 H
        refine rl_a0 dX8_commandAt_33 ?_
        refine ar_ldcT dX8_commandAt_34 kt_X8_92 ?_
        obtain ⟨a4, e4, H⟩ := wp_b H
        refine rc_V1i dX8_commandAt_36 ml_X8_84 mc_X10_isWord (c_X10_isWord (by decide) e4) rfl rfl rfl (ok_X rfl) rfl rfl rfl ?_
        refine ar_if_eq 44 dX8_commandAt_39 (by decide) (fun c4 => ?_) (fun c4 => ?_)
        · replace H := wp_t c4 H
          refine rl_a0 dX8_commandAt_44 ?_
          refine ar_ldcT dX8_commandAt_45 kt_X8_94 ?_
          obtain ⟨a5, e5, H⟩ := wp_b H
          refine rc_V1i dX8_commandAt_47 ml_X8_84 mc_X10_isWord (c_X10_isWord (by decide) e5) rfl rfl rfl (ok_X rfl) rfl rfl rfl ?_
          refine ar_if_eq 55 dX8_commandAt_50 (by decide) (fun c5 => ?_) (fun c5 => ?_)
          · replace H := wp_t c5 H
            refine rl_a0 dX8_commandAt_55 ?_
            refine ar_ldcT dX8_commandAt_56 kt_X8_96 ?_
            obtain ⟨a6, e6, H⟩ := wp_b H
            refine rc_V1i dX8_commandAt_58 ml_X8_84 mc_X10_isWord (c_X10_isWord (by decide) e6) rfl rfl rfl (ok_X rfl) rfl rfl rfl ?_
            refine ar_if_eq 66 dX8_commandAt_61 (by decide) (fun c6 => ?_) (fun c6 => ?_)
            · replace H := wp_t c6 H
              refine rl_a0 dX8_commandAt_66 ?_
              refine ar_ldcT dX8_commandAt_67 kt_X8_98 ?_
              obtain ⟨a7, e7, H⟩ := wp_b H
              refine rc_V1i dX8_commandAt_69 ml_X8_84 mc_X10_isWord (c_X10_isWord (by decide) e7) rfl rfl rfl (ok_X rfl) rfl rfl rfl ?_
              refine ar_if_eq 80 dX8_commandAt_72 (by decide) (fun c7 => ?_) (fun c7 => ?_)
              · replace H := wp_t c7 H
                refine ar_iconst (iI (-1)) dX8_commandAt_80 rfl ?_
                replace H := wp_s H
                exact ar_iret dX8_commandAt_81 rfl rfl H
              · replace H := wp_f c7 H
                refine ar_bipush (iI (6)) dX8_commandAt_75 rfl ?_
                refine ar_goto 81 dX8_commandAt_77 (by decide) ?_
                replace H := wp_s H
                exact ar_iret dX8_commandAt_81 rfl rfl H
            · replace H := wp_f c6 H
              refine ar_iconst (iI (5)) dX8_commandAt_64 rfl ?_
              replace H := wp_s H
              exact ar_iret dX8_commandAt_65 rfl rfl H
          · replace H := wp_f c5 H
            refine ar_iconst (iI (4)) dX8_commandAt_53 rfl ?_
            replace H := wp_s H
            exact ar_iret dX8_commandAt_54 rfl rfl H
        · replace H := wp_f c4 H
          refine ar_iconst (iI (3)) dX8_commandAt_42 rfl ?_
          replace H := wp_s H
          exact ar_iret dX8_commandAt_43 rfl rfl H
      · replace H := wp_f c3 H
        refine ar_iconst (iI (2)) dX8_commandAt_31 rfl ?_
        replace H := wp_s H
        exact ar_iret dX8_commandAt_32 rfl rfl H
    · replace H := wp_f c2 H
      refine ar_iconst (iI (1)) dX8_commandAt_20 rfl ?_
      replace H := wp_s H
      exact ar_iret dX8_commandAt_21 rfl rfl H
  · replace H := wp_f c1 H
    refine ar_iconst (iI (0)) dX8_commandAt_9 rfl ?_
    replace H := wp_s H
    exact ar_iret dX8_commandAt_10 rfl rfl H
noncomputable def f_X8_readRepeat_43   (h : am_H) : Option (Int32 × am_H) :=
  (f_X8_addStep (iI (6)) (h.1 (.inl 1) 8 5) h).bind (fun a1 => (f_X10_takeSign (iI (40)) a1).bind (fun a2 => if zb a2.1 then (some ((a2.1, a2.2))) else none))
noncomputable def f_X8_readRepeat  (h : am_H) : Option (Int32 × am_H) :=
  (f_X10_takeNumber (iI (1)) (iI (20)) h).bind (fun a1 => if a1.1 = 0 then (some (((iI (0)), a1.2))) else (if (iI (2)) ≤ (a1.2.1 (.inl 1) 11 6) then (f_X8_readRepeat_43 a1.2) else (if ib (a1.2.1 (.inl 1) 11 6) 2 then (am_lt (am_u a1.2 (.inl 1) 15 (((a1.2.1 (.inl 1) 11 6)).toNatClampNeg) (a1.2.1 (.inl 1) 11 4)) (fun h1 => am_lt (am_u h1 (.inl 1) 11 6 ((h1.1 (.inl 1) 11 6) + (iI (1)))) (fun h2 => f_X8_readRepeat_43 h2))) else none)))
theorem c_X8_readRepeat_43   {h : am_H} {Q : Option am_v → am_H → Prop} (H : wp (f_X8_readRepeat_43 h) (fun a => Q (some (am_i a.1)) a.2)) : am_V RX8 cX8_readRepeat 2 (some .boolean) 4 88 0 0 none (am_Tm cX8_readRepeat (some .boolean) Q) 0 0 43 [some (am_r (.inl 1) 11), some (am_r (.inl 1) 8)] [] h := by
  unfold f_X8_readRepeat_43 at H
  refine rl_a0 dX8_readRepeat_43 ?_
  refine ar_bipush (iI (6)) dX8_readRepeat_44 rfl ?_
  refine rl_a1 dX8_readRepeat_46 ?_
  refine ar_getI dX8_readRepeat_47 fg_X8_72 rfl rfl (ok_X rfl) ?_
  obtain ⟨a1, e1, H⟩ := wp_b H
  refine rc_V2v dX8_readRepeat_50 ml_X8_75 mc_X8_addStep (c_X8_addStep e1) rfl rfl rfl (ok_X rfl) rfl rfl rfl ?_
  refine rl_a1 dX8_readRepeat_53 ?_
  refine ar_bipush (iI (40)) dX8_readRepeat_54 rfl ?_
  obtain ⟨a2, e2, H⟩ := wp_b H
  refine rc_V1i dX8_readRepeat_56 ml_X8_79 mc_X10_takeSign (c_X10_takeSign e2) rfl rfl rfl (ok_X rfl) rfl rfl rfl ?_
  obtain ⟨b1, H⟩ := wp_g H
  replace H := wp_s H
  exact ar_iret dX8_readRepeat_59 rfl (zb_n b1) H
theorem c_X8_readRepeat  {h : am_H} {a : Int32 × am_H} (e : f_X8_readRepeat h = some a) : am_Mi yX8_readRepeat cX8_readRepeat 2 (some .boolean) 4 88 [am_r (.inl 1) 11, am_r (.inl 1) 8] h a.1 a.2 := by
  refine am_M.ofi (A := [some (am_r (.inl 1) 11), some (am_r (.inl 1) 8)]) (by decide +kernel) rfl (ble rfl) (fun Q hQ => ?_)
  have H : wp (f_X8_readRepeat h) (fun a => Q (some (am_i a.1)) a.2) := ⟨a, e, hQ⟩
  unfold f_X8_readRepeat at H
  refine rl_a1 dX8_readRepeat_0 ?_
  refine ar_iconst (iI (1)) dX8_readRepeat_1 rfl ?_
  refine ar_bipush (iI (20)) dX8_readRepeat_2 rfl ?_
  obtain ⟨a1, e1, H⟩ := wp_b H
  refine rc_V2i dX8_readRepeat_4 ml_X8_68 mc_X10_takeNumber (c_X10_takeNumber e1) rfl rfl rfl (ok_X rfl) rfl rfl rfl ?_
  refine ar_if_ne 12 dX8_readRepeat_7 (by decide) (fun c1 => ?_) (fun c1 => ?_)
  · replace H := wp_f c1 H
    refine rl_a0 dX8_readRepeat_12 ?_
    refine ar_getI dX8_readRepeat_13 fg_X8_31 rfl rfl (ok_X rfl) ?_
    refine ar_iconst (iI (2)) dX8_readRepeat_16 rfl ?_
    refine ar_ic_ge 43 dX8_readRepeat_17 (by decide) (fun c2 => ?_) (fun c2 => ?_)
    · replace H := wp_t c2 H
      exact am_V.wk (am_s (am_s am_0)) (c_X8_readRepeat_43  H)
    · replace H := wp_f c2 H
      refine rl_a0 dX8_readRepeat_20 ?_
      refine rg_R (.inl 1) 15 dX8_readRepeat_21 fg_X8_21 rfl rfl rfl (ok_X rfl) ?_
      refine rl_a0 dX8_readRepeat_24 ?_
      refine ar_getI dX8_readRepeat_25 fg_X8_31 rfl rfl (ok_X rfl) ?_
      refine rl_a0 dX8_readRepeat_28 ?_
      refine ar_getI dX8_readRepeat_29 fg_X8_24 rfl rfl (ok_X rfl) ?_
      obtain ⟨b1, H⟩ := wp_g H
      refine ar_iast dX8_readRepeat_32 rfl (ok_X rfl) (ib_in b1) ?_
      replace H := wp_l H
      generalize am_u a1.2 (.inl 1) 15 (((a1.2.1 (.inl 1) 11 6)).toNatClampNeg) (a1.2.1 (.inl 1) 11 4) = h1 at H ⊢
      refine rl_a0 dX8_readRepeat_33 ?_
      refine ar_dup dX8_readRepeat_34 trivial ?_
      refine ar_getI dX8_readRepeat_35 fg_X8_31 rfl rfl (ok_X rfl) ?_
      refine ar_iconst (iI (1)) dX8_readRepeat_38 rfl ?_
      refine ar_iadd dX8_readRepeat_39 ?_
      refine ar_putI dX8_readRepeat_40 fg_X8_31 rfl rfl (ok_X rfl) rfl rfl ?_
      replace H := wp_l H
      generalize am_u h1 (.inl 1) 11 6 ((h1.1 (.inl 1) 11 6) + (iI (1))) = h2 at H ⊢
      exact am_V.wk (am_s (am_s am_0)) (c_X8_readRepeat_43  H)
  · replace H := wp_t c1 H
    refine ar_iconst (iI (0)) dX8_readRepeat_10 rfl ?_
    replace H := wp_s H
    exact ar_iret dX8_readRepeat_11 rfl rfl H
noncomputable def f_X8_readCommand_95  (x2 : Int32) (h : am_H) : Option (Int32 × am_H) :=
  (f_X8_addStep x2 (h.1 (.inl 1) 8 5) h).bind (fun a1 => (f_X10_takeSign (iI (59)) a1).bind (fun a2 => if zb a2.1 then (some ((a2.1, a2.2))) else none))
noncomputable def f_X8_readCommand_36  (x2 : Int32) (h : am_H) : Option (Int32 × am_H) :=
  if (h.1 (.inl 1) 11 5) < (iI (30)) then (am_lt (am_u h (.inl 1) 11 5 ((h.1 (.inl 1) 11 5) + (iI (1)))) (fun h1 => (f_X10_advance h1).bind (fun a1 => if x2 = (iI (6)) then ((f_X8_readRepeat a1).bind (fun a2 => if zb a2.1 then (some ((a2.1, a2.2))) else none)) else (if x2 = (iI (1)) then (f_X8_readCommand_95 x2 a1) else ((f_X10_takeNumber (iI (0)) (iI (999)) a1).bind (fun a2 => if a2.1 = 0 then (some (((iI (0)), a2.2))) else (f_X8_readCommand_95 x2 a2.2))))))) else ((f_X10_fail (iI (5)) h).bind (fun a1 => if zb a1.1 then (some ((a1.1, a1.2))) else none))
noncomputable def f_X8_readCommand  (h : am_H) : Option (Int32 × am_H) :=
  (f_X8_commandAt h).bind (fun a1 => if a1 = (iI (-1)) then ((f_X10_fail (iI (1)) h).bind (fun a2 => if zb a2.1 then (some ((a2.1, a2.2))) else none)) else (if a1 = (iI (6)) then (if (h.1 (.inl 1) 11 6) < (iI (2)) then (f_X8_readCommand_36 a1 h) else ((f_X10_fail (iI (3)) h).bind (fun a2 => if zb a2.1 then (some ((a2.1, a2.2))) else none))) else (f_X8_readCommand_36 a1 h)))
theorem c_X8_readCommand_95  {x2 : Int32} {h : am_H} {Q : Option am_v → am_H → Prop} (H : wp (f_X8_readCommand_95 x2 h) (fun a => Q (some (am_i a.1)) a.2)) : am_V RX8 cX8_readCommand 3 (some .boolean) 6 127 0 0 none (am_Tm cX8_readCommand (some .boolean) Q) 0 0 95 [some (am_r (.inl 1) 11), some (am_r (.inl 1) 8), some (am_i x2)] [] h := by
  unfold f_X8_readCommand_95 at H
  refine rl_a0 dX8_readCommand_95 ?_
  refine rl_i2 dX8_readCommand_96 ?_
  refine rl_a1 dX8_readCommand_97 ?_
  refine ar_getI dX8_readCommand_98 fg_X8_72 rfl rfl (ok_X rfl) ?_
  obtain ⟨a1, e1, H⟩ := wp_b H
  refine rc_V2v dX8_readCommand_101 ml_X8_75 mc_X8_addStep (c_X8_addStep e1) rfl rfl rfl (ok_X rfl) rfl rfl rfl ?_
  refine rl_a1 dX8_readCommand_104 ?_
  refine ar_bipush (iI (59)) dX8_readCommand_105 rfl ?_
  obtain ⟨a2, e2, H⟩ := wp_b H
  refine rc_V1i dX8_readCommand_107 ml_X8_79 mc_X10_takeSign (c_X10_takeSign e2) rfl rfl rfl (ok_X rfl) rfl rfl rfl ?_
  obtain ⟨b1, H⟩ := wp_g H
  replace H := wp_s H
  exact ar_iret dX8_readCommand_110 rfl (zb_n b1) H
theorem c_X8_readCommand_36  {x2 : Int32} {h : am_H} {Q : Option am_v → am_H → Prop} (H : wp (f_X8_readCommand_36 x2 h) (fun a => Q (some (am_i a.1)) a.2)) : am_V RX8 cX8_readCommand 3 (some .boolean) 6 127 0 0 none (am_Tm cX8_readCommand (some .boolean) Q) 0 0 36 [some (am_r (.inl 1) 11), some (am_r (.inl 1) 8), some (am_i x2)] [] h := by
  unfold f_X8_readCommand_36 at H
  refine rl_a0 dX8_readCommand_36 ?_
  refine ar_getI dX8_readCommand_37 fg_X8_28 rfl rfl (ok_X rfl) ?_
  refine ar_bipush (iI (30)) dX8_readCommand_40 rfl ?_
  refine ar_ic_lt 51 dX8_readCommand_42 (by decide) (fun c1 => ?_) (fun c1 => ?_)
  · replace H := wp_t c1 H
    refine rl_a0 dX8_readCommand_51 ?_
    refine ar_dup dX8_readCommand_52 trivial ?_
    refine ar_getI dX8_readCommand_53 fg_X8_28 rfl rfl (ok_X rfl) ?_
    refine ar_iconst (iI (1)) dX8_readCommand_56 rfl ?_
    refine ar_iadd dX8_readCommand_57 ?_
    refine ar_putI dX8_readCommand_58 fg_X8_28 rfl rfl (ok_X rfl) rfl rfl ?_
    replace H := wp_l H
    generalize am_u h (.inl 1) 11 5 ((h.1 (.inl 1) 11 5) + (iI (1))) = h1 at H ⊢
    refine rl_a1 dX8_readCommand_61 ?_
    obtain ⟨a1, e1, H⟩ := wp_b H
    refine rc_V0v dX8_readCommand_62 ml_X8_62 mc_X10_advance (c_X10_advance e1) rfl rfl rfl (ok_X rfl) rfl rfl rfl ?_
    refine rl_i2 dX8_readCommand_65 ?_
    refine ar_bipush (iI (6)) dX8_readCommand_66 rfl ?_
    refine ar_ic_ne 77 dX8_readCommand_68 (by decide) (fun c2 => ?_) (fun c2 => ?_)
    · replace H := wp_f c2 H
      refine rl_i2 dX8_readCommand_77 ?_
      refine ar_iconst (iI (1)) dX8_readCommand_78 rfl ?_
      refine ar_ic_eq 95 dX8_readCommand_79 (by decide) (fun c3 => ?_) (fun c3 => ?_)
      · replace H := wp_t c3 H
        exact am_V.wk (am_s (am_s (am_s am_0))) (c_X8_readCommand_95  H)
      · replace H := wp_f c3 H
        refine rl_a1 dX8_readCommand_82 ?_
        refine ar_iconst (iI (0)) dX8_readCommand_83 rfl ?_
        refine ar_sipush (iI (999)) dX8_readCommand_84 rfl ?_
        obtain ⟨a2, e2, H⟩ := wp_b H
        refine rc_V2i dX8_readCommand_87 ml_X8_68 mc_X10_takeNumber (c_X10_takeNumber e2) rfl rfl rfl (ok_X rfl) rfl rfl rfl ?_
        refine ar_if_ne 95 dX8_readCommand_90 (by decide) (fun c4 => ?_) (fun c4 => ?_)
        · replace H := wp_f c4 H
          exact am_V.wk (am_s (am_s (am_s am_0))) (c_X8_readCommand_95  H)
        · replace H := wp_t c4 H
          refine ar_iconst (iI (0)) dX8_readCommand_93 rfl ?_
          replace H := wp_s H
          exact ar_iret dX8_readCommand_94 rfl rfl H
    · replace H := wp_t c2 H
      refine rl_a0 dX8_readCommand_71 ?_
      refine rl_a1 dX8_readCommand_72 ?_
      obtain ⟨a2, e2, H⟩ := wp_b H
      refine rc_V1i dX8_readCommand_73 ml_X8_65 mc_X8_readRepeat (c_X8_readRepeat e2) rfl rfl rfl (ok_X rfl) rfl rfl rfl ?_
      obtain ⟨b1, H⟩ := wp_g H
      replace H := wp_s H
      exact ar_iret dX8_readCommand_76 rfl (zb_n b1) H
  · replace H := wp_f c1 H
    refine rl_a1 dX8_readCommand_45 ?_
    refine ar_iconst (iI (5)) dX8_readCommand_46 rfl ?_
    obtain ⟨a1, e1, H⟩ := wp_b H
    refine rc_V1i dX8_readCommand_47 ml_X8_54 mc_X10_fail (c_X10_fail e1) rfl rfl rfl (ok_X rfl) rfl rfl rfl ?_
    obtain ⟨b1, H⟩ := wp_g H
    replace H := wp_s H
    exact ar_iret dX8_readCommand_50 rfl (zb_n b1) H
theorem c_X8_readCommand  {h : am_H} {a : Int32 × am_H} (e : f_X8_readCommand h = some a) : am_Mi yX8_readCommand cX8_readCommand 3 (some .boolean) 6 127 [am_r (.inl 1) 11, am_r (.inl 1) 8] h a.1 a.2 := by
  refine am_M.ofi (A := [some (am_r (.inl 1) 11), some (am_r (.inl 1) 8), none]) (by decide +kernel) rfl (ble rfl) (fun Q hQ => ?_)
  have H : wp (f_X8_readCommand h) (fun a => Q (some (am_i a.1)) a.2) := ⟨a, e, hQ⟩
  unfold f_X8_readCommand at H
  refine rl_a1 dX8_readCommand_0 ?_
  obtain ⟨a1, e1, H⟩ := wp_b H
  refine rc_S1i dX8_readCommand_1 ml_X8_58 mc_X8_commandAt (c_X8_commandAt e1) rfl rfl rfl ?_
  refine rs_i2 dX8_readCommand_4 rfl trivial ?_
  refine rl_i2 dX8_readCommand_5 ?_
  refine ar_iconst (iI (-1)) dX8_readCommand_6 rfl ?_
  refine ar_ic_ne 16 dX8_readCommand_7 (by decide) (fun c1 => ?_) (fun c1 => ?_)
  · replace H := wp_f c1 H
    refine rl_i2 dX8_readCommand_16 ?_
    refine ar_bipush (iI (6)) dX8_readCommand_17 rfl ?_
    refine ar_ic_ne 36 dX8_readCommand_19 (by decide) (fun c2 => ?_) (fun c2 => ?_)
    · replace H := wp_f c2 H
      exact am_V.wk (am_s (am_s (am_s am_0))) (c_X8_readCommand_36  H)
    · replace H := wp_t c2 H
      refine rl_a0 dX8_readCommand_22 ?_
      refine ar_getI dX8_readCommand_23 fg_X8_31 rfl rfl (ok_X rfl) ?_
      refine ar_iconst (iI (2)) dX8_readCommand_26 rfl ?_
      refine ar_ic_lt 36 dX8_readCommand_27 (by decide) (fun c3 => ?_) (fun c3 => ?_)
      · replace H := wp_t c3 H
        exact am_V.wk (am_s (am_s (am_s am_0))) (c_X8_readCommand_36  H)
      · replace H := wp_f c3 H
        refine rl_a1 dX8_readCommand_30 ?_
        refine ar_iconst (iI (3)) dX8_readCommand_31 rfl ?_
        obtain ⟨a2, e2, H⟩ := wp_b H
        refine rc_V1i dX8_readCommand_32 ml_X8_54 mc_X10_fail (c_X10_fail e2) rfl rfl rfl (ok_X rfl) rfl rfl rfl ?_
        obtain ⟨b1, H⟩ := wp_g H
        replace H := wp_s H
        exact ar_iret dX8_readCommand_35 rfl (zb_n b1) H
  · replace H := wp_t c1 H
    refine rl_a1 dX8_readCommand_10 ?_
    refine ar_iconst (iI (1)) dX8_readCommand_11 rfl ?_
    obtain ⟨a2, e2, H⟩ := wp_b H
    refine rc_V1i dX8_readCommand_12 ml_X8_54 mc_X10_fail (c_X10_fail e2) rfl rfl rfl (ok_X rfl) rfl rfl rfl ?_
    obtain ⟨b1, H⟩ := wp_g H
    replace H := wp_s H
    exact ar_iret dX8_readCommand_15 rfl (zb_n b1) H
noncomputable def s_X8_readFrom  : am_S am_H → Option (am_S am_H ⊕ (Int32 × am_H)) := fun s => match s with
  | (21, [x2], [], [], h) => if (iI (500)) ≤ x2 then (some (.inl (77, [], [], [], h))) else ((f_X10_isAtEnd h).bind (fun a1 => if a1 = 0 then (if (h.1 (.inl 1) 11 6) ≤ 0 then (some (.inl (59, [x2], [], [], h))) else ((f_X10_isSign (iI (41)) h).bind (fun a2 => if a2 = 0 then (some (.inl (59, [x2], [], [], h))) else ((f_X8_readEnd h).bind (fun a3 => if a3.1 = 0 then (some (.inr (((iI (0)), a3.2)))) else (some (.inl (21, [(x2 + 1)], [], [], a3.2)))))))) else (some (.inl (77, [], [], [], h)))))
  | (59, [x2], [], [], h) => (f_X8_readCommand h).bind (fun a1 => if a1.1 = 0 then (some (.inr (((iI (0)), a1.2)))) else (some (.inl (21, [(x2 + 1)], [], [], a1.2))))
  | (77, [], [], [], h) => if (h.1 (.inl 1) 11 6) = 0 then (some (.inr (((iI (1)), h)))) else ((f_X10_fail (iI (1)) h).bind (fun a1 => if a1.1 = 0 then (some (.inr (((iI (0)), a1.2)))) else (some (.inr (((iI (1)), a1.2))))))
  | _ => none
noncomputable def f_X8_readFrom_21  (x2 : Int32) (h : am_H) : Option (Int32 × am_H) := lp (s_X8_readFrom) (21, [x2], [], [], h)
noncomputable def f_X8_readFrom_59  (x2 : Int32) (h : am_H) : Option (Int32 × am_H) := lp (s_X8_readFrom) (59, [x2], [], [], h)
noncomputable def f_X8_readFrom_77   (h : am_H) : Option (Int32 × am_H) := lp (s_X8_readFrom) (77, [], [], [], h)
theorem e_X8_readFrom_21  (x2 : Int32) (h : am_H) : f_X8_readFrom_21 x2 h = (if (iI (500)) ≤ x2 then (f_X8_readFrom_77 h) else ((f_X10_isAtEnd h).bind (fun a1 => if a1 = 0 then (if (h.1 (.inl 1) 11 6) ≤ 0 then (f_X8_readFrom_59 x2 h) else ((f_X10_isSign (iI (41)) h).bind (fun a2 => if a2 = 0 then (f_X8_readFrom_59 x2 h) else ((f_X8_readEnd h).bind (fun a3 => if a3.1 = 0 then (some (((iI (0)), a3.2))) else (f_X8_readFrom_21 (x2 + 1) a3.2)))))) else (f_X8_readFrom_77 h)))) := by
  show lp _ _ = _
  rw [lp_eq, s_X8_readFrom]
  simp only [lpk_i, lpk_b, lpk_l, lpk_n, lpk_j, lpk_r] <;> rfl
theorem e_X8_readFrom_59  (x2 : Int32) (h : am_H) : f_X8_readFrom_59 x2 h = ((f_X8_readCommand h).bind (fun a1 => if a1.1 = 0 then (some (((iI (0)), a1.2))) else (f_X8_readFrom_21 (x2 + 1) a1.2))) := by
  show lp _ _ = _
  rw [lp_eq, s_X8_readFrom]
  simp only [lpk_i, lpk_b, lpk_l, lpk_n, lpk_j, lpk_r] <;> rfl
theorem e_X8_readFrom_77   (h : am_H) : f_X8_readFrom_77 h = (if (h.1 (.inl 1) 11 6) = 0 then (some (((iI (1)), h))) else ((f_X10_fail (iI (1)) h).bind (fun a1 => if a1.1 = 0 then (some (((iI (0)), a1.2))) else (some (((iI (1)), a1.2)))))) := by
  show lp _ _ = _
  rw [lp_eq, s_X8_readFrom]
  simp only [lpk_i, lpk_b, lpk_l, lpk_n, lpk_j, lpk_r] <;> rfl
noncomputable def f_X8_readFrom  (h : am_H) : Option (Int32 × am_H) :=
  am_lt (am_u h (.inl 1) 11 4 (iI (0))) (fun h1 => am_lt (am_u h1 (.inl 1) 11 5 (iI (0))) (fun h2 => am_lt (am_u h2 (.inl 1) 11 6 (iI (0))) (fun h3 => (f_X10_begin h3).bind (fun a1 => f_X8_readFrom_21 (iI (0)) a1))))
theorem c_X8_readFrom_L  {Q : Option am_v → am_H → Prop} : ∀ s, wp (lp (s_X8_readFrom) s) (fun a => Q (some (am_i a.1)) a.2) → ((∀ x2 h, s = (21, [x2], [], [], h) → am_V RX8 cX8_readFrom 4 (some .boolean) 7 149 0 0 none (am_Tm cX8_readFrom (some .boolean) Q) 0 0 21 [some (am_r (.inl 1) 11), some (am_r (.inl 1) 8), some (am_i x2), none] [] h) ∧ (∀ x2 h, s = (59, [x2], [], [], h) → am_V RX8 cX8_readFrom 4 (some .boolean) 7 149 0 0 none (am_Tm cX8_readFrom (some .boolean) Q) 0 0 59 [some (am_r (.inl 1) 11), some (am_r (.inl 1) 8), some (am_i x2), none] [] h) ∧ (∀ h, s = (77, [], [], [], h) → am_V RX8 cX8_readFrom 4 (some .boolean) 7 149 0 0 none (am_Tm cX8_readFrom (some .boolean) Q) 0 0 77 [some (am_r (.inl 1) 11), some (am_r (.inl 1) 8), none, none] [] h)) := by
  refine lp_ind _ _ (fun s H => ⟨fun x2 h e => ?_, fun x2 h e => ?_, fun h e => ?_⟩)
  · subst e
    rw [s_X8_readFrom] at H
    refine rl_i2 dX8_readFrom_21 ?_
    refine ar_sipush (iI (500)) dX8_readFrom_22 rfl ?_
    refine ar_ic_ge 77 dX8_readFrom_25 (by decide) (fun c1 => ?_) (fun c1 => ?_)
    · replace H := wp_t c1 H
      exact am_V.wk (am_s (am_s (am_n (am_n am_0)))) ((lp_in H).2.2 _ rfl)
    · replace H := wp_f c1 H
      refine rl_a1 dX8_readFrom_28 ?_
      obtain ⟨a1, e1, H⟩ := wp_b H
      refine rc_V0i dX8_readFrom_29 ml_X8_39 mc_X10_isAtEnd (c_X10_isAtEnd e1) rfl rfl rfl (ok_X rfl) rfl rfl rfl ?_
      refine ar_if_ne 77 dX8_readFrom_32 (by decide) (fun c2 => ?_) (fun c2 => ?_)
      · replace H := wp_f c2 H
        exact am_V.wk (am_s (am_s (am_n (am_n am_0)))) ((lp_in H).2.2 _ rfl)
      · replace H := wp_t c2 H
        refine rl_a0 dX8_readFrom_35 ?_
        refine ar_getI dX8_readFrom_36 fg_X8_31 rfl rfl (ok_X rfl) ?_
        refine ar_if_le 59 dX8_readFrom_39 (by decide) (fun c3 => ?_) (fun c3 => ?_)
        · replace H := wp_t c3 H
          exact am_V.wk (am_s (am_s (am_s (am_n am_0)))) ((lp_in H).2.1 _ _ rfl)
        · replace H := wp_f c3 H
          refine rl_a1 dX8_readFrom_42 ?_
          refine ar_bipush (iI (41)) dX8_readFrom_43 rfl ?_
          obtain ⟨a2, e2, H⟩ := wp_b H
          refine rc_V1i dX8_readFrom_45 ml_X8_43 mc_X10_isSign (c_X10_isSign e2) rfl rfl rfl (ok_X rfl) rfl rfl rfl ?_
          refine ar_if_eq 59 dX8_readFrom_48 (by decide) (fun c4 => ?_) (fun c4 => ?_)
          · replace H := wp_t c4 H
            exact am_V.wk (am_s (am_s (am_s (am_n am_0)))) ((lp_in H).2.1 _ _ rfl)
          · replace H := wp_f c4 H
            refine rl_a0 dX8_readFrom_51 ?_
            refine rl_a1 dX8_readFrom_52 ?_
            obtain ⟨a3, e3, H⟩ := wp_b H
            refine rc_V1i dX8_readFrom_53 ml_X8_47 mc_X8_readEnd (c_X8_readEnd e3) rfl rfl rfl (ok_X rfl) rfl rfl rfl ?_
            refine ar_goto 64 dX8_readFrom_56 (by decide) ?_
            refine rs_i3 dX8_readFrom_64 rfl trivial ?_
            refine rl_i3 dX8_readFrom_65 ?_
            refine ar_if_ne 71 dX8_readFrom_66 (by decide) (fun c5 => ?_) (fun c5 => ?_)
            · replace H := wp_f c5 H
              refine rn_1_2 dX8_readFrom_71 rfl trivial ?_
              refine ar_goto 21 dX8_readFrom_74 (by decide) ?_
              exact am_V.wk (am_s (am_s (am_s (am_n am_0)))) ((lp_in H).1 _ _ rfl)
            · replace H := wp_t c5 H
              refine ar_iconst (iI (0)) dX8_readFrom_69 rfl ?_
              replace H := lp_re H
              exact ar_iret dX8_readFrom_70 rfl rfl H
  · subst e
    rw [s_X8_readFrom] at H
    refine rl_a0 dX8_readFrom_59 ?_
    refine rl_a1 dX8_readFrom_60 ?_
    obtain ⟨a1, e1, H⟩ := wp_b H
    refine rc_V1i dX8_readFrom_61 ml_X8_51 mc_X8_readCommand (c_X8_readCommand e1) rfl rfl rfl (ok_X rfl) rfl rfl rfl ?_
    refine rs_i3 dX8_readFrom_64 rfl trivial ?_
    refine rl_i3 dX8_readFrom_65 ?_
    refine ar_if_ne 71 dX8_readFrom_66 (by decide) (fun c1 => ?_) (fun c1 => ?_)
    · replace H := wp_f c1 H
      refine rn_1_2 dX8_readFrom_71 rfl trivial ?_
      refine ar_goto 21 dX8_readFrom_74 (by decide) ?_
      exact am_V.wk (am_s (am_s (am_s (am_n am_0)))) ((lp_in H).1 _ _ rfl)
    · replace H := wp_t c1 H
      refine ar_iconst (iI (0)) dX8_readFrom_69 rfl ?_
      replace H := lp_re H
      exact ar_iret dX8_readFrom_70 rfl rfl H
  · subst e
    rw [s_X8_readFrom] at H
    refine rl_a0 dX8_readFrom_77 ?_
    refine ar_getI dX8_readFrom_78 fg_X8_31 rfl rfl (ok_X rfl) ?_
    refine ar_if_eq 92 dX8_readFrom_81 (by decide) (fun c1 => ?_) (fun c1 => ?_)
    · replace H := wp_t c1 H
      refine ar_iconst (iI (1)) dX8_readFrom_92 rfl ?_
      refine ar_goto 97 dX8_readFrom_93 (by decide) ?_
      replace H := lp_re H
      exact ar_iret dX8_readFrom_97 rfl rfl H
    · replace H := wp_f c1 H
      refine rl_a1 dX8_readFrom_84 ?_
      refine ar_iconst (iI (1)) dX8_readFrom_85 rfl ?_
      obtain ⟨a1, e1, H⟩ := wp_b H
      refine rc_V1i dX8_readFrom_86 ml_X8_54 mc_X10_fail (c_X10_fail e1) rfl rfl rfl (ok_X rfl) rfl rfl rfl ?_
      refine ar_if_eq 96 dX8_readFrom_89 (by decide) (fun c2 => ?_) (fun c2 => ?_)
      · replace H := wp_t c2 H
        refine ar_iconst (iI (0)) dX8_readFrom_96 rfl ?_
        replace H := lp_re H
        exact ar_iret dX8_readFrom_97 rfl rfl H
      · replace H := wp_f c2 H
        refine ar_iconst (iI (1)) dX8_readFrom_92 rfl ?_
        refine ar_goto 97 dX8_readFrom_93 (by decide) ?_
        replace H := lp_re H
        exact ar_iret dX8_readFrom_97 rfl rfl H
theorem c_X8_readFrom  {h : am_H} {a : Int32 × am_H} (e : f_X8_readFrom h = some a) : am_Mi yX8_readFrom cX8_readFrom 4 (some .boolean) 7 149 [am_r (.inl 1) 11, am_r (.inl 1) 8] h a.1 a.2 := by
  refine am_M.ofi (A := [some (am_r (.inl 1) 11), some (am_r (.inl 1) 8), none, none]) (by decide +kernel) rfl (ble rfl) (fun Q hQ => ?_)
  have H : wp (f_X8_readFrom h) (fun a => Q (some (am_i a.1)) a.2) := ⟨a, e, hQ⟩
  unfold f_X8_readFrom at H
  refine rl_a0 dX8_readFrom_0 ?_
  refine ar_iconst (iI (0)) dX8_readFrom_1 rfl ?_
  refine ar_putI dX8_readFrom_2 fg_X8_24 rfl rfl (ok_X rfl) rfl rfl ?_
  replace H := wp_l H
  generalize am_u h (.inl 1) 11 4 (iI (0)) = h1 at H ⊢
  refine rl_a0 dX8_readFrom_5 ?_
  refine ar_iconst (iI (0)) dX8_readFrom_6 rfl ?_
  refine ar_putI dX8_readFrom_7 fg_X8_28 rfl rfl (ok_X rfl) rfl rfl ?_
  replace H := wp_l H
  generalize am_u h1 (.inl 1) 11 5 (iI (0)) = h2 at H ⊢
  refine rl_a0 dX8_readFrom_10 ?_
  refine ar_iconst (iI (0)) dX8_readFrom_11 rfl ?_
  refine ar_putI dX8_readFrom_12 fg_X8_31 rfl rfl (ok_X rfl) rfl rfl ?_
  replace H := wp_l H
  generalize am_u h2 (.inl 1) 11 6 (iI (0)) = h3 at H ⊢
  refine rl_a1 dX8_readFrom_15 ?_
  obtain ⟨a1, e1, H⟩ := wp_b H
  refine rc_V0v dX8_readFrom_16 ml_X8_34 mc_X10_begin (c_X10_begin e1) rfl rfl rfl (ok_X rfl) rfl rfl rfl ?_
  refine ar_iconst (iI (0)) dX8_readFrom_19 rfl ?_
  refine rs_i2 dX8_readFrom_20 rfl trivial ?_
  exact am_V.wk (am_s (am_s (am_s (am_n am_0)))) ((c_X8_readFrom_L  _ H).1 _ _ rfl)
noncomputable def f_X8_stepBehindEnd (x1 : Int32) (h : am_H) : Option (Int32 × am_H) :=
  if ib x1 60 then (if ib (h.1 (.inl 1) 13 x1.toNatClampNeg) 60 then (if ib (h.1 (.inl 1) 13 x1.toNatClampNeg) 60 then (am_lt (am_u h (.inl 1) 14 (((h.1 (.inl 1) 13 x1.toNatClampNeg)).toNatClampNeg) ((h.1 (.inl 1) 14 ((h.1 (.inl 1) 13 x1.toNatClampNeg)).toNatClampNeg) - (iI (1)))) (fun h1 => if ib (h.1 (.inl 1) 13 x1.toNatClampNeg) 60 then (if (h1.1 (.inl 1) 14 ((h.1 (.inl 1) 13 x1.toNatClampNeg)).toNatClampNeg) ≤ 0 then (some (((x1 + (iI (1))), h1))) else (some ((((h.1 (.inl 1) 13 x1.toNatClampNeg) + (iI (1))), h1)))) else none)) else none) else none) else none
theorem c_X8_stepBehindEnd {x1 : Int32} {h : am_H} {a : Int32 × am_H} (e : f_X8_stepBehindEnd x1 h = some a) : am_Mi yX8_stepBehindEnd cX8_stepBehindEnd 3 (some .int) 0 0 [am_r (.inl 1) 11, am_i x1] h a.1 a.2 := by
  refine am_M.ofi (A := [some (am_r (.inl 1) 11), some (am_i x1), none]) (by decide +kernel) rfl (ble rfl) (fun Q hQ => ?_)
  have H : wp (f_X8_stepBehindEnd x1 h) (fun a => Q (some (am_i a.1)) a.2) := ⟨a, e, hQ⟩
  unfold f_X8_stepBehindEnd at H
  refine rl_a0 dX8_stepBehindEnd_0 ?_
  refine rg_R (.inl 1) 13 dX8_stepBehindEnd_1 fg_X8_15 rfl rfl rfl (ok_X rfl) ?_
  refine rl_i1 dX8_stepBehindEnd_4 ?_
  obtain ⟨b1, H⟩ := wp_g H
  refine ar_iald dX8_stepBehindEnd_5 rfl (ok_X rfl) (ib_in b1) ?_
  refine rs_i2 dX8_stepBehindEnd_6 rfl trivial ?_
  refine rl_a0 dX8_stepBehindEnd_7 ?_
  refine rg_R (.inl 1) 14 dX8_stepBehindEnd_8 fg_X8_18 rfl rfl rfl (ok_X rfl) ?_
  refine rl_i2 dX8_stepBehindEnd_11 ?_
  refine ar_dup2 dX8_stepBehindEnd_12 trivial trivial ?_
  obtain ⟨b2, H⟩ := wp_g H
  refine ar_iald dX8_stepBehindEnd_13 rfl (ok_X rfl) (ib_in b2) ?_
  refine ar_iconst (iI (1)) dX8_stepBehindEnd_14 rfl ?_
  refine ar_isub dX8_stepBehindEnd_15 ?_
  obtain ⟨b3, H⟩ := wp_g H
  refine ar_iast dX8_stepBehindEnd_16 rfl (ok_X rfl) (ib_in b3) ?_
  replace H := wp_l H
  generalize am_u h (.inl 1) 14 (((h.1 (.inl 1) 13 x1.toNatClampNeg)).toNatClampNeg) ((h.1 (.inl 1) 14 ((h.1 (.inl 1) 13 x1.toNatClampNeg)).toNatClampNeg) - (iI (1))) = h1 at H ⊢
  refine rl_a0 dX8_stepBehindEnd_17 ?_
  refine rg_R (.inl 1) 14 dX8_stepBehindEnd_18 fg_X8_18 rfl rfl rfl (ok_X rfl) ?_
  refine rl_i2 dX8_stepBehindEnd_21 ?_
  obtain ⟨b4, H⟩ := wp_g H
  refine ar_iald dX8_stepBehindEnd_22 rfl (ok_X rfl) (ib_in b4) ?_
  refine ar_if_le 32 dX8_stepBehindEnd_23 (by decide) (fun c1 => ?_) (fun c1 => ?_)
  · replace H := wp_t c1 H
    refine rl_i1 dX8_stepBehindEnd_32 ?_
    refine ar_iconst (iI (1)) dX8_stepBehindEnd_33 rfl ?_
    refine ar_iadd dX8_stepBehindEnd_34 ?_
    replace H := wp_s H
    exact ar_iret dX8_stepBehindEnd_35 rfl rfl H
  · replace H := wp_f c1 H
    refine rl_i2 dX8_stepBehindEnd_26 ?_
    refine ar_iconst (iI (1)) dX8_stepBehindEnd_27 rfl ?_
    refine ar_iadd dX8_stepBehindEnd_28 ?_
    refine ar_goto 35 dX8_stepBehindEnd_29 (by decide) ?_
    replace H := wp_s H
    exact ar_iret dX8_stepBehindEnd_35 rfl rfl H
noncomputable def f_X8_isDone (k : Nat) (x1 : Int32) (x2 : Int32) (h : am_H) : Option (Int32 × am_H) :=
  if x1.toInt = 0 then ((f_X5_canEngrave k x2 h).bind (fun a1 => if a1 = 0 then (some (((iI (0)), h))) else ((f_X5_engraveLetter k x2 h).bind (fun a2 => some (((iI (1)), a2.2)))))) else (if x1.toInt = 1 then ((f_X5_canEngravePlanned k h).bind (fun a1 => if a1 = 0 then (some (((iI (0)), h))) else ((f_X5_engravePlanned k h).bind (fun a2 => some (((iI (1)), a2.2)))))) else (if x1.toInt = 2 then ((f_X5_canMend k x2 h).bind (fun a1 => if a1 = 0 then (some (((iI (0)), h))) else ((f_X5_mendScratch k x2 h).bind (fun a2 => some (((iI (1)), a2.2)))))) else (if x1.toInt = 3 then ((f_X5_canPolish k x2 h).bind (fun a1 => if a1 = 0 then (some (((iI (0)), h))) else ((f_X5_polishLetter k x2 h).bind (fun a2 => some (((iI (1)), a2.2)))))) else (if x1.toInt = 4 then ((f_X1_canSharpenBy x2).bind (fun a1 => if a1 = 0 then (some (((iI (0)), h))) else ((f_X1_sharpenBy (.inr k) 16 x2 h).bind (fun a2 => some (((iI (1)), a2.2)))))) else ((f_X5_canHaveMargin x2).bind (fun a1 => if a1 = 0 then (some (((iI (0)), h))) else (am_lt (am_u h (.inr k) 0 5 x2) (fun h1 => some (((iI (1)), h1))))))))))
theorem c_X8_isDone {k : Nat} (hk : k < 10) {x1 : Int32} {x2 : Int32} {h : am_H} {a : Int32 × am_H} (e : f_X8_isDone k x1 x2 h = some a) : am_Mi yX8_isDone cX8_isDone 3 (some .boolean) 5 114 [am_r (.inr k) 0, am_i x1, am_i x2] h a.1 a.2 := by
  refine am_M.ofi (A := [some (am_r (.inr k) 0), some (am_i x1), some (am_i x2)]) (by decide +kernel) rfl (ble rfl) (fun Q hQ => ?_)
  have H : wp (f_X8_isDone k x1 x2 h) (fun a => Q (some (am_i a.1)) a.2) := ⟨a, e, hQ⟩
  unfold f_X8_isDone at H
  refine rl_i1 dX8_isDone_0 ?_
  rcases Decidable.em (x1.toInt = 0) with c1_0 | c1_0
  · replace H := wp_t c1_0 H
    refine ar_swIn 36 dX8_isDone_1 (by omega) (by omega) (by rw [c1_0]; rfl) (by decide) ?_
    refine rl_a0 dX8_isDone_36 ?_
    refine rl_i2 dX8_isDone_37 ?_
    obtain ⟨a1, e1, H⟩ := wp_b H
    refine rc_V1i dX8_isDone_38 ml_X8_109 mc_X5_canEngrave (c_X5_canEngrave hk e1) rfl rfl rfl (ok_P hk rfl) rfl rfl rfl ?_
    refine ar_if_ne 46 dX8_isDone_41 (by decide) (fun c1 => ?_) (fun c1 => ?_)
    · replace H := wp_f c1 H
      refine rl_a0 dX8_isDone_46 ?_
      refine rl_i2 dX8_isDone_47 ?_
      obtain ⟨a2, e2, H⟩ := wp_b H
      refine rc_V1i dX8_isDone_48 ml_X8_114 mc_X5_engraveLetter (c_X5_engraveLetter hk e2) rfl rfl rfl (ok_P hk rfl) rfl rfl rfl ?_
      refine ar_pop dX8_isDone_51 trivial ?_
      refine ar_iconst (iI (1)) dX8_isDone_52 rfl ?_
      replace H := wp_s H
      exact ar_iret dX8_isDone_53 rfl rfl H
    · replace H := wp_t c1 H
      refine ar_iconst (iI (0)) dX8_isDone_44 rfl ?_
      replace H := wp_s H
      exact ar_iret dX8_isDone_45 rfl rfl H
  replace H := wp_f c1_0 H
  rcases Decidable.em (x1.toInt = 1) with c1_1 | c1_1
  · replace H := wp_t c1_1 H
    refine ar_swIn 54 dX8_isDone_1 (by omega) (by omega) (by rw [c1_1]; rfl) (by decide) ?_
    refine rl_a0 dX8_isDone_54 ?_
    obtain ⟨a1, e1, H⟩ := wp_b H
    refine rc_V0i dX8_isDone_55 ml_X8_117 mc_X5_canEngravePlanned (c_X5_canEngravePlanned hk e1) rfl rfl rfl (ok_P hk rfl) rfl rfl rfl ?_
    refine ar_if_ne 63 dX8_isDone_58 (by decide) (fun c1 => ?_) (fun c1 => ?_)
    · replace H := wp_f c1 H
      refine rl_a0 dX8_isDone_63 ?_
      obtain ⟨a2, e2, H⟩ := wp_b H
      refine rc_V0i dX8_isDone_64 ml_X8_120 mc_X5_engravePlanned (c_X5_engravePlanned hk e2) rfl rfl rfl (ok_P hk rfl) rfl rfl rfl ?_
      refine ar_pop dX8_isDone_67 trivial ?_
      refine ar_iconst (iI (1)) dX8_isDone_68 rfl ?_
      replace H := wp_s H
      exact ar_iret dX8_isDone_69 rfl rfl H
    · replace H := wp_t c1 H
      refine ar_iconst (iI (0)) dX8_isDone_61 rfl ?_
      replace H := wp_s H
      exact ar_iret dX8_isDone_62 rfl rfl H
  replace H := wp_f c1_1 H
  rcases Decidable.em (x1.toInt = 2) with c1_2 | c1_2
  · replace H := wp_t c1_2 H
    refine ar_swIn 70 dX8_isDone_1 (by omega) (by omega) (by rw [c1_2]; rfl) (by decide) ?_
    refine rl_a0 dX8_isDone_70 ?_
    refine rl_i2 dX8_isDone_71 ?_
    obtain ⟨a1, e1, H⟩ := wp_b H
    refine rc_V1i dX8_isDone_72 ml_X8_124 mc_X5_canMend (c_X5_canMend hk e1) rfl rfl rfl (ok_P hk rfl) rfl rfl rfl ?_
    refine ar_if_ne 80 dX8_isDone_75 (by decide) (fun c1 => ?_) (fun c1 => ?_)
    · replace H := wp_f c1 H
      refine rl_a0 dX8_isDone_80 ?_
      refine rl_i2 dX8_isDone_81 ?_
      obtain ⟨a2, e2, H⟩ := wp_b H
      refine rc_V1i dX8_isDone_82 ml_X8_127 mc_X5_mendScratch (c_X5_mendScratch hk e2) rfl rfl rfl (ok_P hk rfl) rfl rfl rfl ?_
      refine ar_pop dX8_isDone_85 trivial ?_
      refine ar_iconst (iI (1)) dX8_isDone_86 rfl ?_
      replace H := wp_s H
      exact ar_iret dX8_isDone_87 rfl rfl H
    · replace H := wp_t c1 H
      refine ar_iconst (iI (0)) dX8_isDone_78 rfl ?_
      replace H := wp_s H
      exact ar_iret dX8_isDone_79 rfl rfl H
  replace H := wp_f c1_2 H
  rcases Decidable.em (x1.toInt = 3) with c1_3 | c1_3
  · replace H := wp_t c1_3 H
    refine ar_swIn 88 dX8_isDone_1 (by omega) (by omega) (by rw [c1_3]; rfl) (by decide) ?_
    refine rl_a0 dX8_isDone_88 ?_
    refine rl_i2 dX8_isDone_89 ?_
    obtain ⟨a1, e1, H⟩ := wp_b H
    refine rc_V1i dX8_isDone_90 ml_X8_130 mc_X5_canPolish (c_X5_canPolish hk e1) rfl rfl rfl (ok_P hk rfl) rfl rfl rfl ?_
    refine ar_if_ne 98 dX8_isDone_93 (by decide) (fun c1 => ?_) (fun c1 => ?_)
    · replace H := wp_f c1 H
      refine rl_a0 dX8_isDone_98 ?_
      refine rl_i2 dX8_isDone_99 ?_
      obtain ⟨a2, e2, H⟩ := wp_b H
      refine rc_V1i dX8_isDone_100 ml_X8_133 mc_X5_polishLetter (c_X5_polishLetter hk e2) rfl rfl rfl (ok_P hk rfl) rfl rfl rfl ?_
      refine ar_pop dX8_isDone_103 trivial ?_
      refine ar_iconst (iI (1)) dX8_isDone_104 rfl ?_
      replace H := wp_s H
      exact ar_iret dX8_isDone_105 rfl rfl H
    · replace H := wp_t c1 H
      refine ar_iconst (iI (0)) dX8_isDone_96 rfl ?_
      replace H := wp_s H
      exact ar_iret dX8_isDone_97 rfl rfl H
  replace H := wp_f c1_3 H
  rcases Decidable.em (x1.toInt = 4) with c1_4 | c1_4
  · replace H := wp_t c1_4 H
    refine ar_swIn 106 dX8_isDone_1 (by omega) (by omega) (by rw [c1_4]; rfl) (by decide) ?_
    refine rl_i2 dX8_isDone_106 ?_
    obtain ⟨a1, e1, H⟩ := wp_b H
    refine rc_S1i dX8_isDone_107 ml_X8_136 mc_X1_canSharpenBy (c_X1_canSharpenBy e1) rfl rfl rfl ?_
    refine ar_if_ne 115 dX8_isDone_110 (by decide) (fun c1 => ?_) (fun c1 => ?_)
    · replace H := wp_f c1 H
      refine rl_a0 dX8_isDone_115 ?_
      refine rg_R (.inr k) 16 dX8_isDone_116 fg_X8_141 rfl rfl rfl (ok_P hk rfl) ?_
      refine rl_i2 dX8_isDone_119 ?_
      obtain ⟨a2, e2, H⟩ := wp_b H
      refine rc_V1i dX8_isDone_120 ml_X8_145 mc_X1_sharpenBy (c_X1_sharpenBy rfl (ok_P hk rfl) e2) rfl rfl rfl (ok_P hk rfl) rfl rfl rfl ?_
      refine ar_pop dX8_isDone_123 trivial ?_
      refine ar_iconst (iI (1)) dX8_isDone_124 rfl ?_
      replace H := wp_s H
      exact ar_iret dX8_isDone_125 rfl rfl H
    · replace H := wp_t c1 H
      refine ar_iconst (iI (0)) dX8_isDone_113 rfl ?_
      replace H := wp_s H
      exact ar_iret dX8_isDone_114 rfl rfl H
  replace H := wp_f c1_4 H
  refine ar_swOut 126 dX8_isDone_1 (by omega) (by decide) ?_
  refine rl_i2 dX8_isDone_126 ?_
  obtain ⟨a1, e1, H⟩ := wp_b H
  refine rc_S1i dX8_isDone_127 ml_X8_148 mc_X5_canHaveMargin (c_X5_canHaveMargin e1) rfl rfl rfl ?_
  refine ar_if_ne 135 dX8_isDone_130 (by decide) (fun c1 => ?_) (fun c1 => ?_)
  · replace H := wp_f c1 H
    refine rl_a0 dX8_isDone_135 ?_
    refine rl_i2 dX8_isDone_136 ?_
    refine ar_putI dX8_isDone_137 fg_X8_151 rfl rfl (ok_P hk rfl) rfl rfl ?_
    replace H := wp_l H
    generalize am_u h (.inr k) 0 5 x2 = h1 at H ⊢
    refine ar_iconst (iI (1)) dX8_isDone_140 rfl ?_
    replace H := wp_s H
    exact ar_iret dX8_isDone_141 rfl rfl H
  · replace H := wp_t c1 H
    refine ar_iconst (iI (0)) dX8_isDone_133 rfl ?_
    replace H := wp_s H
    exact ar_iret dX8_isDone_134 rfl rfl H
noncomputable def s_X8_runOn (k : Nat) : am_S am_H → Option (am_S am_H ⊕ (Int32 × am_H)) := fun s => match s with
  | (7, [x2, x3, x4], [], [], h) => if (1000000 : Int32) ≤ x4 then (some (.inr ((x2, h)))) else (if (h.1 (.inl 1) 11 4) ≤ x3 then (some (.inr ((x2, h)))) else (if (iI (40)) ≤ x2 then (some (.inr ((x2, h)))) else (if ib x3 60 then (if (h.1 (.inl 1) 12 x3.toNatClampNeg) = (iI (6)) then (if ib x3 60 then (if ib x3 60 then (am_lt (am_u h (.inl 1) 14 x3.toNatClampNeg (h.1 (.inl 1) 13 x3.toNatClampNeg)) (fun h1 => some (.inl (7, [x2, (x3 + 1), (x4 + 1)], [], [], h1)))) else none) else none) else (if ib x3 60 then (if (h.1 (.inl 1) 12 x3.toNatClampNeg) = (iI (7)) then ((f_X8_stepBehindEnd x3 h).bind (fun a1 => some (.inl (7, [x2, a1.1, (x4 + 1)], [], [], a1.2)))) else (if ib x3 60 then (if ib x3 60 then ((f_X8_isDone k (h.1 (.inl 1) 12 x3.toNatClampNeg) (h.1 (.inl 1) 13 x3.toNatClampNeg) h).bind (fun a1 => if a1.1 = 0 then (some (.inr ((x2, a1.2)))) else (some (.inl (7, [(x2 + 1), (x3 + 1), (x4 + 1)], [], [], a1.2))))) else none) else none)) else none)) else none)))
  | _ => none
noncomputable def f_X8_runOn_7 (k : Nat) (x2 : Int32) (x3 : Int32) (x4 : Int32) (h : am_H) : Option (Int32 × am_H) := lp (s_X8_runOn k) (7, [x2, x3, x4], [], [], h)
theorem e_X8_runOn_7 (k : Nat) (x2 : Int32) (x3 : Int32) (x4 : Int32) (h : am_H) : f_X8_runOn_7 k x2 x3 x4 h = (if (1000000 : Int32) ≤ x4 then (some ((x2, h))) else (if (h.1 (.inl 1) 11 4) ≤ x3 then (some ((x2, h))) else (if (iI (40)) ≤ x2 then (some ((x2, h))) else (if ib x3 60 then (if (h.1 (.inl 1) 12 x3.toNatClampNeg) = (iI (6)) then (if ib x3 60 then (if ib x3 60 then (am_lt (am_u h (.inl 1) 14 x3.toNatClampNeg (h.1 (.inl 1) 13 x3.toNatClampNeg)) (fun h1 => f_X8_runOn_7 k x2 (x3 + 1) (x4 + 1) h1)) else none) else none) else (if ib x3 60 then (if (h.1 (.inl 1) 12 x3.toNatClampNeg) = (iI (7)) then ((f_X8_stepBehindEnd x3 h).bind (fun a1 => f_X8_runOn_7 k x2 a1.1 (x4 + 1) a1.2)) else (if ib x3 60 then (if ib x3 60 then ((f_X8_isDone k (h.1 (.inl 1) 12 x3.toNatClampNeg) (h.1 (.inl 1) 13 x3.toNatClampNeg) h).bind (fun a1 => if a1.1 = 0 then (some ((x2, a1.2))) else (f_X8_runOn_7 k (x2 + 1) (x3 + 1) (x4 + 1) a1.2))) else none) else none)) else none)) else none)))) := by
  show lp _ _ = _
  rw [lp_eq, s_X8_runOn]
  simp only [lpk_i, lpk_b, lpk_l, lpk_n, lpk_j, lpk_r] <;> rfl
noncomputable def f_X8_runOn (k : Nat) (h : am_H) : Option (Int32 × am_H) :=
  f_X8_runOn_7 k (iI (0)) (iI (0)) (iI (0)) h
theorem c_X8_runOn_L {k : Nat} (hk : k < 10) {Q : Option am_v → am_H → Prop} : ∀ s, wp (lp (s_X8_runOn k) s) (fun a => Q (some (am_i a.1)) a.2) → ((∀ x2 x3 x4 h, s = (7, [x2, x3, x4], [], [], h) → am_V RX8 cX8_runOn 5 (some .int) 6 136 0 0 none (am_Tm cX8_runOn (some .int) Q) 0 0 7 [some (am_r (.inl 1) 11), some (am_r (.inr k) 0), some (am_i x2), some (am_i x3), some (am_i x4)] [] h)) := by
  refine lp_ind _ _ (fun s H => fun x2 x3 x4 h e => ?_)
  · subst e
    rw [s_X8_runOn] at H
    refine rl_i4 dX8_runOn_7 ?_
    refine ar_ldc (1000000) dX8_runOn_9 kc_X8_100 ?_
    refine ar_ic_ge 113 dX8_runOn_11 (by decide) (fun c1 => ?_) (fun c1 => ?_)
    · replace H := wp_t c1 H
      refine rl_i2 dX8_runOn_113 ?_
      replace H := lp_re H
      exact ar_iret dX8_runOn_114 rfl rfl H
    · replace H := wp_f c1 H
      refine rl_i3 dX8_runOn_14 ?_
      refine rl_a0 dX8_runOn_15 ?_
      refine ar_getI dX8_runOn_16 fg_X8_24 rfl rfl (ok_X rfl) ?_
      refine ar_ic_ge 113 dX8_runOn_19 (by decide) (fun c2 => ?_) (fun c2 => ?_)
      · replace H := wp_t c2 H
        refine rl_i2 dX8_runOn_113 ?_
        replace H := lp_re H
        exact ar_iret dX8_runOn_114 rfl rfl H
      · replace H := wp_f c2 H
        refine rl_i2 dX8_runOn_22 ?_
        refine ar_bipush (iI (40)) dX8_runOn_23 rfl ?_
        refine ar_ic_ge 113 dX8_runOn_25 (by decide) (fun c3 => ?_) (fun c3 => ?_)
        · replace H := wp_t c3 H
          refine rl_i2 dX8_runOn_113 ?_
          replace H := lp_re H
          exact ar_iret dX8_runOn_114 rfl rfl H
        · replace H := wp_f c3 H
          refine rl_a0 dX8_runOn_28 ?_
          refine rg_R (.inl 1) 12 dX8_runOn_29 fg_X8_11 rfl rfl rfl (ok_X rfl) ?_
          refine rl_i3 dX8_runOn_32 ?_
          obtain ⟨b1, H⟩ := wp_g H
          refine ar_iald dX8_runOn_33 rfl (ok_X rfl) (ib_in b1) ?_
          refine ar_bipush (iI (6)) dX8_runOn_34 rfl ?_
          refine ar_ic_ne 57 dX8_runOn_36 (by decide) (fun c4 => ?_) (fun c4 => ?_)
          · replace H := wp_f c4 H
            refine rl_a0 dX8_runOn_57 ?_
            refine rg_R (.inl 1) 12 dX8_runOn_58 fg_X8_11 rfl rfl rfl (ok_X rfl) ?_
            refine rl_i3 dX8_runOn_61 ?_
            obtain ⟨b2, H⟩ := wp_g H
            refine ar_iald dX8_runOn_62 rfl (ok_X rfl) (ib_in b2) ?_
            refine ar_bipush (iI (7)) dX8_runOn_63 rfl ?_
            refine ar_ic_ne 77 dX8_runOn_65 (by decide) (fun c5 => ?_) (fun c5 => ?_)
            · replace H := wp_f c5 H
              refine rl_a1 dX8_runOn_77 ?_
              refine rl_a0 dX8_runOn_78 ?_
              refine rg_R (.inl 1) 12 dX8_runOn_79 fg_X8_11 rfl rfl rfl (ok_X rfl) ?_
              refine rl_i3 dX8_runOn_82 ?_
              obtain ⟨b3, H⟩ := wp_g H
              refine ar_iald dX8_runOn_83 rfl (ok_X rfl) (ib_in b3) ?_
              refine rl_a0 dX8_runOn_84 ?_
              refine rg_R (.inl 1) 13 dX8_runOn_85 fg_X8_15 rfl rfl rfl (ok_X rfl) ?_
              refine rl_i3 dX8_runOn_88 ?_
              obtain ⟨b4, H⟩ := wp_g H
              refine ar_iald dX8_runOn_89 rfl (ok_X rfl) (ib_in b4) ?_
              obtain ⟨a1, e1, H⟩ := wp_b H
              refine rc_S3i dX8_runOn_90 ml_X8_105 mc_X8_isDone (c_X8_isDone hk e1) rfl rfl rfl ?_
              refine ar_if_eq 105 dX8_runOn_93 (by decide) (fun c6 => ?_) (fun c6 => ?_)
              · replace H := wp_t c6 H
                refine rl_i2 dX8_runOn_105 ?_
                replace H := lp_re H
                exact ar_iret dX8_runOn_106 rfl rfl H
              · replace H := wp_f c6 H
                refine rn_1_2 dX8_runOn_96 rfl trivial ?_
                refine rn_1_3 dX8_runOn_99 rfl trivial ?_
                refine ar_goto 107 dX8_runOn_102 (by decide) ?_
                refine rn_1_4 dX8_runOn_107 rfl trivial ?_
                refine ar_goto 7 dX8_runOn_110 (by decide) ?_
                exact am_V.wk (am_s (am_s (am_s (am_s (am_s am_0))))) ((lp_in H) _ _ _ _ rfl)
            · replace H := wp_t c5 H
              refine rl_a0 dX8_runOn_68 ?_
              refine rl_i3 dX8_runOn_69 ?_
              obtain ⟨a1, e1, H⟩ := wp_b H
              refine rc_V1i dX8_runOn_70 ml_X8_101 mc_X8_stepBehindEnd (c_X8_stepBehindEnd e1) rfl rfl rfl (ok_X rfl) rfl rfl rfl ?_
              refine rs_i3 dX8_runOn_73 rfl trivial ?_
              refine ar_goto 107 dX8_runOn_74 (by decide) ?_
              refine rn_1_4 dX8_runOn_107 rfl trivial ?_
              refine ar_goto 7 dX8_runOn_110 (by decide) ?_
              exact am_V.wk (am_s (am_s (am_s (am_s (am_s am_0))))) ((lp_in H) _ _ _ _ rfl)
          · replace H := wp_t c4 H
            refine rl_a0 dX8_runOn_39 ?_
            refine rg_R (.inl 1) 14 dX8_runOn_40 fg_X8_18 rfl rfl rfl (ok_X rfl) ?_
            refine rl_i3 dX8_runOn_43 ?_
            refine rl_a0 dX8_runOn_44 ?_
            refine rg_R (.inl 1) 13 dX8_runOn_45 fg_X8_15 rfl rfl rfl (ok_X rfl) ?_
            refine rl_i3 dX8_runOn_48 ?_
            obtain ⟨b2, H⟩ := wp_g H
            refine ar_iald dX8_runOn_49 rfl (ok_X rfl) (ib_in b2) ?_
            obtain ⟨b3, H⟩ := wp_g H
            refine ar_iast dX8_runOn_50 rfl (ok_X rfl) (ib_in b3) ?_
            replace H := wp_l H
            generalize am_u h (.inl 1) 14 x3.toNatClampNeg (h.1 (.inl 1) 13 x3.toNatClampNeg) = h1 at H ⊢
            refine rn_1_3 dX8_runOn_51 rfl trivial ?_
            refine ar_goto 107 dX8_runOn_54 (by decide) ?_
            refine rn_1_4 dX8_runOn_107 rfl trivial ?_
            refine ar_goto 7 dX8_runOn_110 (by decide) ?_
            exact am_V.wk (am_s (am_s (am_s (am_s (am_s am_0))))) ((lp_in H) _ _ _ _ rfl)
theorem c_X8_runOn {k : Nat} (hk : k < 10) {h : am_H} {a : Int32 × am_H} (e : f_X8_runOn k h = some a) : am_Mi yX8_runOn cX8_runOn 5 (some .int) 6 136 [am_r (.inl 1) 11, am_r (.inr k) 0] h a.1 a.2 := by
  refine am_M.ofi (A := [some (am_r (.inl 1) 11), some (am_r (.inr k) 0), none, none, none]) (by decide +kernel) rfl (ble rfl) (fun Q hQ => ?_)
  have H : wp (f_X8_runOn k h) (fun a => Q (some (am_i a.1)) a.2) := ⟨a, e, hQ⟩
  unfold f_X8_runOn at H
  refine ar_iconst (iI (0)) dX8_runOn_0 rfl ?_
  refine rs_i2 dX8_runOn_1 rfl trivial ?_
  refine ar_iconst (iI (0)) dX8_runOn_2 rfl ?_
  refine rs_i3 dX8_runOn_3 rfl trivial ?_
  refine ar_iconst (iI (0)) dX8_runOn_4 rfl ?_
  refine rs_i4 dX8_runOn_5 rfl trivial ?_
  exact am_V.wk (am_s (am_s (am_s (am_s (am_s am_0))))) ((c_X8_runOn_L hk _ H) _ _ _ _ rfl)
noncomputable def f_X9_readArc (k : Nat) (h : am_H) : Option (Int32 × am_H) :=
  if (h.1 (.inr k) 1 4) < (iI (8)) then ((f_X10_advance h).bind (fun a1 => (f_X10_takeNumber (iI (1)) (iI (99)) a1).bind (fun a2 => if a2.1 = 0 then (some (((iI (0)), a2.2))) else ((f_X10_takeNumber (iI (1)) (iI (180)) a2.2).bind (fun a3 => if a3.1 = 0 then (some (((iI (0)), a3.2))) else ((f_X10_takeIfWord 7 a3.2).bind (fun a4 => (f_X10_takeIfWord 8 a4.2).bind (fun a5 => if a5.1 = 0 then ((f_X0_addArc k (a2.2.1 (.inl 1) 8 5) (a3.2.1 (.inl 1) 8 5) a4.1 (iI (30)) a5.2).bind (fun a6 => some (((iI (1)), a6)))) else ((f_X10_takeNumber (iI (0)) (iI (99)) a5.2).bind (fun a6 => if a6.1 = 0 then (some (((iI (0)), a6.2))) else ((f_X0_addArc k (a2.2.1 (.inl 1) 8 5) (a3.2.1 (.inl 1) 8 5) a4.1 (a6.2.1 (.inl 1) 8 5) a6.2).bind (fun a7 => some (((iI (1)), a7)))))))))))))) else ((f_X10_fail (iI (5)) h).bind (fun a1 => if zb a1.1 then (some ((a1.1, a1.2))) else none))
theorem c_X9_readArc {k : Nat} (hk : k < 10) {h : am_H} {a : Int32 × am_H} (e : f_X9_readArc k h = some a) : am_Mi yX9_readArc cX9_readArc 7 (some .boolean) 6 129 [am_r (.inl 1) 10, am_r (.inr k) 1, am_r (.inl 1) 8] h a.1 a.2 := by
  refine am_M.ofi (A := [some (am_r (.inl 1) 10), some (am_r (.inr k) 1), some (am_r (.inl 1) 8), none, none, none, none]) (by decide +kernel) rfl (ble rfl) (fun Q hQ => ?_)
  have H : wp (f_X9_readArc k h) (fun a => Q (some (am_i a.1)) a.2) := ⟨a, e, hQ⟩
  unfold f_X9_readArc at H
  refine rl_a1 dX9_readArc_0 ?_
  refine ar_getI dX9_readArc_1 fg_X9_105 rfl rfl (ok_P hk rfl) ?_
  refine ar_bipush (iI (8)) dX9_readArc_4 rfl ?_
  refine ar_ic_lt 15 dX9_readArc_6 (by decide) (fun c1 => ?_) (fun c1 => ?_)
  · replace H := wp_t c1 H
    refine rl_a2 dX9_readArc_15 ?_
    obtain ⟨a1, e1, H⟩ := wp_b H
    refine rc_V0v dX9_readArc_16 ml_X9_111 mc_X10_advance (c_X10_advance e1) rfl rfl rfl (ok_X rfl) rfl rfl rfl ?_
    refine rl_a2 dX9_readArc_19 ?_
    refine ar_iconst (iI (1)) dX9_readArc_20 rfl ?_
    refine ar_bipush (iI (99)) dX9_readArc_21 rfl ?_
    obtain ⟨a2, e2, H⟩ := wp_b H
    refine rc_V2i dX9_readArc_23 ml_X9_114 mc_X10_takeNumber (c_X10_takeNumber e2) rfl rfl rfl (ok_X rfl) rfl rfl rfl ?_
    refine ar_if_ne 31 dX9_readArc_26 (by decide) (fun c2 => ?_) (fun c2 => ?_)
    · replace H := wp_f c2 H
      refine rl_a2 dX9_readArc_31 ?_
      refine ar_getI dX9_readArc_32 fg_X9_118 rfl rfl (ok_X rfl) ?_
      refine rs_i3 dX9_readArc_35 rfl trivial ?_
      refine rl_a2 dX9_readArc_36 ?_
      refine ar_iconst (iI (1)) dX9_readArc_37 rfl ?_
      refine ar_sipush (iI (180)) dX9_readArc_38 rfl ?_
      obtain ⟨a3, e3, H⟩ := wp_b H
      refine rc_V2i dX9_readArc_41 ml_X9_114 mc_X10_takeNumber (c_X10_takeNumber e3) rfl rfl rfl (ok_X rfl) rfl rfl rfl ?_
      refine ar_if_ne 49 dX9_readArc_44 (by decide) (fun c3 => ?_) (fun c3 => ?_)
      · replace H := wp_f c3 H
        refine rl_a2 dX9_readArc_49 ?_
        refine ar_getI dX9_readArc_50 fg_X9_118 rfl rfl (ok_X rfl) ?_
        refine rs_i4 dX9_readArc_53 rfl trivial ?_
        refine rl_a2 dX9_readArc_55 ?_
        refine ar_ldcT dX9_readArc_56 kt_X9_121 ?_
        obtain ⟨a4, e4, H⟩ := wp_b H
        refine rc_V1i dX9_readArc_58 ml_X9_123 mc_X10_takeIfWord (c_X10_takeIfWord (by decide) e4) rfl rfl rfl (ok_X rfl) rfl rfl rfl ?_
        refine rs_i5 dX9_readArc_61 rfl trivial ?_
        refine ar_bipush (iI (30)) dX9_readArc_63 rfl ?_
        refine rs_i6 dX9_readArc_65 rfl trivial ?_
        refine rl_a2 dX9_readArc_67 ?_
        refine ar_ldcT dX9_readArc_68 kt_X9_126 ?_
        obtain ⟨a5, e5, H⟩ := wp_b H
        refine rc_V1i dX9_readArc_70 ml_X9_123 mc_X10_takeIfWord (c_X10_takeIfWord (by decide) e5) rfl rfl rfl (ok_X rfl) rfl rfl rfl ?_
        refine ar_if_eq 94 dX9_readArc_73 (by decide) (fun c4 => ?_) (fun c4 => ?_)
        · replace H := wp_t c4 H
          refine rl_a1 dX9_readArc_94 ?_
          refine rl_i3 dX9_readArc_95 ?_
          refine rl_i4 dX9_readArc_96 ?_
          refine rl_i5 dX9_readArc_98 ?_
          refine rl_i6 dX9_readArc_100 ?_
          obtain ⟨a6, e6, H⟩ := wp_b H
          refine rc_V4v dX9_readArc_102 ml_X9_128 mc_X0_addArc (c_X0_addArc hk e6) rfl rfl rfl (ok_P hk rfl) rfl rfl rfl ?_
          refine ar_iconst (iI (1)) dX9_readArc_105 rfl ?_
          replace H := wp_s H
          exact ar_iret dX9_readArc_106 rfl rfl H
        · replace H := wp_f c4 H
          refine rl_a2 dX9_readArc_76 ?_
          refine ar_iconst (iI (0)) dX9_readArc_77 rfl ?_
          refine ar_bipush (iI (99)) dX9_readArc_78 rfl ?_
          obtain ⟨a6, e6, H⟩ := wp_b H
          refine rc_V2i dX9_readArc_80 ml_X9_114 mc_X10_takeNumber (c_X10_takeNumber e6) rfl rfl rfl (ok_X rfl) rfl rfl rfl ?_
          refine ar_if_ne 88 dX9_readArc_83 (by decide) (fun c5 => ?_) (fun c5 => ?_)
          · replace H := wp_f c5 H
            refine rl_a2 dX9_readArc_88 ?_
            refine ar_getI dX9_readArc_89 fg_X9_118 rfl rfl (ok_X rfl) ?_
            refine rs_i6 dX9_readArc_92 rfl trivial ?_
            refine rl_a1 dX9_readArc_94 ?_
            refine rl_i3 dX9_readArc_95 ?_
            refine rl_i4 dX9_readArc_96 ?_
            refine rl_i5 dX9_readArc_98 ?_
            refine rl_i6 dX9_readArc_100 ?_
            obtain ⟨a7, e7, H⟩ := wp_b H
            refine rc_V4v dX9_readArc_102 ml_X9_128 mc_X0_addArc (c_X0_addArc hk e7) rfl rfl rfl (ok_P hk rfl) rfl rfl rfl ?_
            refine ar_iconst (iI (1)) dX9_readArc_105 rfl ?_
            replace H := wp_s H
            exact ar_iret dX9_readArc_106 rfl rfl H
          · replace H := wp_t c5 H
            refine ar_iconst (iI (0)) dX9_readArc_86 rfl ?_
            replace H := wp_s H
            exact ar_iret dX9_readArc_87 rfl rfl H
      · replace H := wp_t c3 H
        refine ar_iconst (iI (0)) dX9_readArc_47 rfl ?_
        replace H := wp_s H
        exact ar_iret dX9_readArc_48 rfl rfl H
    · replace H := wp_t c2 H
      refine ar_iconst (iI (0)) dX9_readArc_29 rfl ?_
      replace H := wp_s H
      exact ar_iret dX9_readArc_30 rfl rfl H
  · replace H := wp_f c1 H
    refine rl_a2 dX9_readArc_9 ?_
    refine ar_iconst (iI (5)) dX9_readArc_10 rfl ?_
    obtain ⟨a1, e1, H⟩ := wp_b H
    refine rc_V1i dX9_readArc_11 ml_X9_101 mc_X10_fail (c_X10_fail e1) rfl rfl rfl (ok_X rfl) rfl rfl rfl ?_
    obtain ⟨b1, H⟩ := wp_g H
    replace H := wp_s H
    exact ar_iret dX9_readArc_14 rfl (zb_n b1) H
noncomputable def f_X9_readName (k : Nat) (h : am_H) : Option (Int32 × am_H) :=
  (f_X10_advance h).bind (fun a1 => (f_X10_isAnyWord a1).bind (fun a2 => if a2 = 0 then ((f_X10_fail (iI (1)) a1).bind (fun a3 => if zb a3.1 then (some ((a3.1, a3.2))) else none)) else (if (((a1.1 (.inr k) 6 4) + (a1.1 (.inl 1) 8 4)) - (a1.1 (.inl 1) 8 3)) ≤ (iI (20)) then ((f_X4_addWord k (a1.1 (.inl 1) 8 3) (a1.1 (.inl 1) 8 4) a1).bind (fun a3 => (f_X10_advance a3).bind (fun a4 => some (((iI (1)), a4))))) else ((f_X10_fail (iI (5)) a1).bind (fun a3 => if zb a3.1 then (some ((a3.1, a3.2))) else none)))))
theorem c_X9_readName {k : Nat} (hk : k < 10) {h : am_H} {a : Int32 × am_H} (e : f_X9_readName k h = some a) : am_Mi yX9_readName cX9_readName 3 (some .boolean) 4 89 [am_r (.inl 1) 10, am_r (.inr k) 6, am_r (.inl 1) 8] h a.1 a.2 := by
  refine am_M.ofi (A := [some (am_r (.inl 1) 10), some (am_r (.inr k) 6), some (am_r (.inl 1) 8)]) (by decide +kernel) rfl (ble rfl) (fun Q hQ => ?_)
  have H : wp (f_X9_readName k h) (fun a => Q (some (am_i a.1)) a.2) := ⟨a, e, hQ⟩
  unfold f_X9_readName at H
  refine rl_a2 dX9_readName_0 ?_
  obtain ⟨a1, e1, H⟩ := wp_b H
  refine rc_V0v dX9_readName_1 ml_X9_111 mc_X10_advance (c_X10_advance e1) rfl rfl rfl (ok_X rfl) rfl rfl rfl ?_
  refine rl_a2 dX9_readName_4 ?_
  obtain ⟨a2, e2, H⟩ := wp_b H
  refine rc_V0i dX9_readName_5 ml_X9_132 mc_X10_isAnyWord (c_X10_isAnyWord e2) rfl rfl rfl (ok_X rfl) rfl rfl rfl ?_
  refine ar_if_ne 17 dX9_readName_8 (by decide) (fun c1 => ?_) (fun c1 => ?_)
  · replace H := wp_f c1 H
    refine rl_a1 dX9_readName_17 ?_
    refine ar_getI dX9_readName_18 fg_X9_135 rfl rfl (ok_P hk rfl) ?_
    refine rl_a2 dX9_readName_21 ?_
    refine ar_getI dX9_readName_22 fg_X9_140 rfl rfl (ok_X rfl) ?_
    refine ar_iadd dX9_readName_25 ?_
    refine rl_a2 dX9_readName_26 ?_
    refine ar_getI dX9_readName_27 fg_X9_143 rfl rfl (ok_X rfl) ?_
    refine ar_isub dX9_readName_30 ?_
    refine ar_bipush (iI (20)) dX9_readName_31 rfl ?_
    refine ar_ic_le 42 dX9_readName_33 (by decide) (fun c2 => ?_) (fun c2 => ?_)
    · replace H := wp_t c2 H
      refine rl_a1 dX9_readName_42 ?_
      refine rl_a2 dX9_readName_43 ?_
      refine rl_a2 dX9_readName_44 ?_
      refine ar_getI dX9_readName_45 fg_X9_143 rfl rfl (ok_X rfl) ?_
      refine rl_a2 dX9_readName_48 ?_
      refine ar_getI dX9_readName_49 fg_X9_140 rfl rfl (ok_X rfl) ?_
      obtain ⟨a3, e3, H⟩ := wp_b H
      refine rc_V3v dX9_readName_52 ml_X9_146 mc_X4_addWord (c_X4_addWord hk e3) rfl rfl rfl (ok_P hk rfl) rfl rfl rfl ?_
      refine rl_a2 dX9_readName_55 ?_
      obtain ⟨a4, e4, H⟩ := wp_b H
      refine rc_V0v dX9_readName_56 ml_X9_111 mc_X10_advance (c_X10_advance e4) rfl rfl rfl (ok_X rfl) rfl rfl rfl ?_
      refine ar_iconst (iI (1)) dX9_readName_59 rfl ?_
      replace H := wp_s H
      exact ar_iret dX9_readName_60 rfl rfl H
    · replace H := wp_f c2 H
      refine rl_a2 dX9_readName_36 ?_
      refine ar_iconst (iI (5)) dX9_readName_37 rfl ?_
      obtain ⟨a3, e3, H⟩ := wp_b H
      refine rc_V1i dX9_readName_38 ml_X9_101 mc_X10_fail (c_X10_fail e3) rfl rfl rfl (ok_X rfl) rfl rfl rfl ?_
      obtain ⟨b1, H⟩ := wp_g H
      replace H := wp_s H
      exact ar_iret dX9_readName_41 rfl (zb_n b1) H
  · replace H := wp_t c1 H
    refine rl_a2 dX9_readName_11 ?_
    refine ar_iconst (iI (1)) dX9_readName_12 rfl ?_
    obtain ⟨a3, e3, H⟩ := wp_b H
    refine rc_V1i dX9_readName_13 ml_X9_101 mc_X10_fail (c_X10_fail e3) rfl rfl rfl (ok_X rfl) rfl rfl rfl ?_
    obtain ⟨b1, H⟩ := wp_g H
    replace H := wp_s H
    exact ar_iret dX9_readName_16 rfl (zb_n b1) H
noncomputable def f_X9_readWide (k : Nat) (h : am_H) : Option (Int32 × am_H) :=
  (f_X10_advance h).bind (fun a1 => (f_X10_isAnyWord a1).bind (fun a2 => if a2 = 0 then ((f_X10_fail (iI (1)) a1).bind (fun a3 => if zb a3.1 then (some ((a3.1, a3.2))) else none)) else ((f_X10_advance a1).bind (fun a3 => (f_X10_takeNumber (iI (1)) (iI (99)) a3).bind (fun a4 => if a4.1 = 0 then (some (((iI (0)), a4.2))) else ((f_X4_widenWord k (a1.1 (.inl 1) 8 3) (a1.1 (.inl 1) 8 4) (a4.2.1 (.inl 1) 8 5) a4.2).bind (fun a5 => some (((iI (1)), a5)))))))))
theorem c_X9_readWide {k : Nat} (hk : k < 10) {h : am_H} {a : Int32 × am_H} (e : f_X9_readWide k h = some a) : am_Mi yX9_readWide cX9_readWide 5 (some .boolean) 4 90 [am_r (.inl 1) 10, am_r (.inr k) 6, am_r (.inl 1) 8] h a.1 a.2 := by
  refine am_M.ofi (A := [some (am_r (.inl 1) 10), some (am_r (.inr k) 6), some (am_r (.inl 1) 8), none, none]) (by decide +kernel) rfl (ble rfl) (fun Q hQ => ?_)
  have H : wp (f_X9_readWide k h) (fun a => Q (some (am_i a.1)) a.2) := ⟨a, e, hQ⟩
  unfold f_X9_readWide at H
  refine rl_a2 dX9_readWide_0 ?_
  obtain ⟨a1, e1, H⟩ := wp_b H
  refine rc_V0v dX9_readWide_1 ml_X9_111 mc_X10_advance (c_X10_advance e1) rfl rfl rfl (ok_X rfl) rfl rfl rfl ?_
  refine rl_a2 dX9_readWide_4 ?_
  obtain ⟨a2, e2, H⟩ := wp_b H
  refine rc_V0i dX9_readWide_5 ml_X9_132 mc_X10_isAnyWord (c_X10_isAnyWord e2) rfl rfl rfl (ok_X rfl) rfl rfl rfl ?_
  refine ar_if_ne 17 dX9_readWide_8 (by decide) (fun c1 => ?_) (fun c1 => ?_)
  · replace H := wp_f c1 H
    refine rl_a2 dX9_readWide_17 ?_
    refine ar_getI dX9_readWide_18 fg_X9_143 rfl rfl (ok_X rfl) ?_
    refine rs_i3 dX9_readWide_21 rfl trivial ?_
    refine rl_a2 dX9_readWide_22 ?_
    refine ar_getI dX9_readWide_23 fg_X9_140 rfl rfl (ok_X rfl) ?_
    refine rs_i4 dX9_readWide_26 rfl trivial ?_
    refine rl_a2 dX9_readWide_28 ?_
    obtain ⟨a3, e3, H⟩ := wp_b H
    refine rc_V0v dX9_readWide_29 ml_X9_111 mc_X10_advance (c_X10_advance e3) rfl rfl rfl (ok_X rfl) rfl rfl rfl ?_
    refine rl_a2 dX9_readWide_32 ?_
    refine ar_iconst (iI (1)) dX9_readWide_33 rfl ?_
    refine ar_bipush (iI (99)) dX9_readWide_34 rfl ?_
    obtain ⟨a4, e4, H⟩ := wp_b H
    refine rc_V2i dX9_readWide_36 ml_X9_114 mc_X10_takeNumber (c_X10_takeNumber e4) rfl rfl rfl (ok_X rfl) rfl rfl rfl ?_
    refine ar_if_ne 44 dX9_readWide_39 (by decide) (fun c2 => ?_) (fun c2 => ?_)
    · replace H := wp_f c2 H
      refine rl_a1 dX9_readWide_44 ?_
      refine rl_a2 dX9_readWide_45 ?_
      refine rl_i3 dX9_readWide_46 ?_
      refine rl_i4 dX9_readWide_47 ?_
      refine rl_a2 dX9_readWide_49 ?_
      refine ar_getI dX9_readWide_50 fg_X9_118 rfl rfl (ok_X rfl) ?_
      obtain ⟨a5, e5, H⟩ := wp_b H
      refine rc_V4v dX9_readWide_53 ml_X9_150 mc_X4_widenWord (c_X4_widenWord hk e5) rfl rfl rfl (ok_P hk rfl) rfl rfl rfl ?_
      refine ar_iconst (iI (1)) dX9_readWide_56 rfl ?_
      replace H := wp_s H
      exact ar_iret dX9_readWide_57 rfl rfl H
    · replace H := wp_t c2 H
      refine ar_iconst (iI (0)) dX9_readWide_42 rfl ?_
      replace H := wp_s H
      exact ar_iret dX9_readWide_43 rfl rfl H
  · replace H := wp_t c1 H
    refine rl_a2 dX9_readWide_11 ?_
    refine ar_iconst (iI (1)) dX9_readWide_12 rfl ?_
    obtain ⟨a3, e3, H⟩ := wp_b H
    refine rc_V1i dX9_readWide_13 ml_X9_101 mc_X10_fail (c_X10_fail e3) rfl rfl rfl (ok_X rfl) rfl rfl rfl ?_
    obtain ⟨b1, H⟩ := wp_g H
    replace H := wp_s H
    exact ar_iret dX9_readWide_16 rfl (zb_n b1) H
noncomputable def f_X9_readFlourish (k : Nat) (h : am_H) : Option (Int32 × am_H) :=
  if (h.1 (.inr k) 11 4) < (iI (6)) then ((f_X10_advance h).bind (fun a1 => (f_X10_isAnyWord a1).bind (fun a2 => if a2 = 0 then ((f_X10_fail (iI (1)) a1).bind (fun a3 => if zb a3.1 then (some ((a3.1, a3.2))) else none)) else ((f_X2_beginKind k a1).bind (fun a3 => (f_X2_isBegunNameTaken k a3).bind (fun a4 => if a4 = 0 then ((f_X10_advance a3).bind (fun a5 => (f_X10_takeNumber (iI (1)) (iI (99)) a5).bind (fun a6 => if a6.1 = 0 then (some (((iI (0)), a6.2))) else ((f_X10_takeNumber (iI (1)) (iI (99)) a6.2).bind (fun a7 => if a7.1 = 0 then (some (((iI (0)), a7.2))) else ((f_X10_takeNumber (iI (1)) (iI (9)) a7.2).bind (fun a8 => if a8.1 = 0 then (some (((iI (0)), a8.2))) else ((f_X2_endKind k (a6.2.1 (.inl 1) 8 5) (a7.2.1 (.inl 1) 8 5) (a8.2.1 (.inl 1) 8 5) a8.2).bind (fun a9 => some (((iI (1)), a9))))))))))) else ((f_X10_fail (iI (3)) a3).bind (fun a5 => if zb a5.1 then (some ((a5.1, a5.2))) else none)))))))) else ((f_X10_fail (iI (5)) h).bind (fun a1 => if zb a1.1 then (some ((a1.1, a1.2))) else none))
theorem c_X9_readFlourish {k : Nat} (hk : k < 10) {h : am_H} {a : Int32 × am_H} (e : f_X9_readFlourish k h = some a) : am_Mi yX9_readFlourish cX9_readFlourish 5 (some .boolean) 4 88 [am_r (.inl 1) 10, am_r (.inr k) 11, am_r (.inl 1) 8] h a.1 a.2 := by
  refine am_M.ofi (A := [some (am_r (.inl 1) 10), some (am_r (.inr k) 11), some (am_r (.inl 1) 8), none, none]) (by decide +kernel) rfl (ble rfl) (fun Q hQ => ?_)
  have H : wp (f_X9_readFlourish k h) (fun a => Q (some (am_i a.1)) a.2) := ⟨a, e, hQ⟩
  unfold f_X9_readFlourish at H
  refine rl_a1 dX9_readFlourish_0 ?_
  refine ar_getI dX9_readFlourish_1 fg_X9_154 rfl rfl (ok_P hk rfl) ?_
  refine ar_bipush (iI (6)) dX9_readFlourish_4 rfl ?_
  refine ar_ic_lt 15 dX9_readFlourish_6 (by decide) (fun c1 => ?_) (fun c1 => ?_)
  · replace H := wp_t c1 H
    refine rl_a2 dX9_readFlourish_15 ?_
    obtain ⟨a1, e1, H⟩ := wp_b H
    refine rc_V0v dX9_readFlourish_16 ml_X9_111 mc_X10_advance (c_X10_advance e1) rfl rfl rfl (ok_X rfl) rfl rfl rfl ?_
    refine rl_a2 dX9_readFlourish_19 ?_
    obtain ⟨a2, e2, H⟩ := wp_b H
    refine rc_V0i dX9_readFlourish_20 ml_X9_132 mc_X10_isAnyWord (c_X10_isAnyWord e2) rfl rfl rfl (ok_X rfl) rfl rfl rfl ?_
    refine ar_if_ne 32 dX9_readFlourish_23 (by decide) (fun c2 => ?_) (fun c2 => ?_)
    · replace H := wp_f c2 H
      refine rl_a1 dX9_readFlourish_32 ?_
      refine rl_a2 dX9_readFlourish_33 ?_
      obtain ⟨a3, e3, H⟩ := wp_b H
      refine rc_V1v dX9_readFlourish_34 ml_X9_159 mc_X2_beginKind (c_X2_beginKind hk e3) rfl rfl rfl (ok_P hk rfl) rfl rfl rfl ?_
      refine rl_a1 dX9_readFlourish_37 ?_
      obtain ⟨a4, e4, H⟩ := wp_b H
      refine rc_V0i dX9_readFlourish_38 ml_X9_163 mc_X2_isBegunNameTaken (c_X2_isBegunNameTaken hk e4) rfl rfl rfl (ok_P hk rfl) rfl rfl rfl ?_
      refine ar_if_eq 50 dX9_readFlourish_41 (by decide) (fun c3 => ?_) (fun c3 => ?_)
      · replace H := wp_t c3 H
        refine rl_a2 dX9_readFlourish_50 ?_
        obtain ⟨a5, e5, H⟩ := wp_b H
        refine rc_V0v dX9_readFlourish_51 ml_X9_111 mc_X10_advance (c_X10_advance e5) rfl rfl rfl (ok_X rfl) rfl rfl rfl ?_
        refine rl_a2 dX9_readFlourish_54 ?_
        refine ar_iconst (iI (1)) dX9_readFlourish_55 rfl ?_
        refine ar_bipush (iI (99)) dX9_readFlourish_56 rfl ?_
        obtain ⟨a6, e6, H⟩ := wp_b H
        refine rc_V2i dX9_readFlourish_58 ml_X9_114 mc_X10_takeNumber (c_X10_takeNumber e6) rfl rfl rfl (ok_X rfl) rfl rfl rfl ?_
        refine ar_if_ne 66 dX9_readFlourish_61 (by decide) (fun c4 => ?_) (fun c4 => ?_)
        · replace H := wp_f c4 H
          refine rl_a2 dX9_readFlourish_66 ?_
          refine ar_getI dX9_readFlourish_67 fg_X9_118 rfl rfl (ok_X rfl) ?_
          refine rs_i3 dX9_readFlourish_70 rfl trivial ?_
          refine rl_a2 dX9_readFlourish_71 ?_
          refine ar_iconst (iI (1)) dX9_readFlourish_72 rfl ?_
          refine ar_bipush (iI (99)) dX9_readFlourish_73 rfl ?_
          obtain ⟨a7, e7, H⟩ := wp_b H
          refine rc_V2i dX9_readFlourish_75 ml_X9_114 mc_X10_takeNumber (c_X10_takeNumber e7) rfl rfl rfl (ok_X rfl) rfl rfl rfl ?_
          refine ar_if_ne 83 dX9_readFlourish_78 (by decide) (fun c5 => ?_) (fun c5 => ?_)
          · replace H := wp_f c5 H
            refine rl_a2 dX9_readFlourish_83 ?_
            refine ar_getI dX9_readFlourish_84 fg_X9_118 rfl rfl (ok_X rfl) ?_
            refine rs_i4 dX9_readFlourish_87 rfl trivial ?_
            refine rl_a2 dX9_readFlourish_89 ?_
            refine ar_iconst (iI (1)) dX9_readFlourish_90 rfl ?_
            refine ar_bipush (iI (9)) dX9_readFlourish_91 rfl ?_
            obtain ⟨a8, e8, H⟩ := wp_b H
            refine rc_V2i dX9_readFlourish_93 ml_X9_114 mc_X10_takeNumber (c_X10_takeNumber e8) rfl rfl rfl (ok_X rfl) rfl rfl rfl ?_
            refine ar_if_ne 101 dX9_readFlourish_96 (by decide) (fun c6 => ?_) (fun c6 => ?_)
            · replace H := wp_f c6 H
              refine rl_a1 dX9_readFlourish_101 ?_
              refine rl_i3 dX9_readFlourish_102 ?_
              refine rl_i4 dX9_readFlourish_103 ?_
              refine rl_a2 dX9_readFlourish_105 ?_
              refine ar_getI dX9_readFlourish_106 fg_X9_118 rfl rfl (ok_X rfl) ?_
              obtain ⟨a9, e9, H⟩ := wp_b H
              refine rc_V3v dX9_readFlourish_109 ml_X9_166 mc_X2_endKind (c_X2_endKind hk e9) rfl rfl rfl (ok_P hk rfl) rfl rfl rfl ?_
              refine ar_iconst (iI (1)) dX9_readFlourish_112 rfl ?_
              replace H := wp_s H
              exact ar_iret dX9_readFlourish_113 rfl rfl H
            · replace H := wp_t c6 H
              refine ar_iconst (iI (0)) dX9_readFlourish_99 rfl ?_
              replace H := wp_s H
              exact ar_iret dX9_readFlourish_100 rfl rfl H
          · replace H := wp_t c5 H
            refine ar_iconst (iI (0)) dX9_readFlourish_81 rfl ?_
            replace H := wp_s H
            exact ar_iret dX9_readFlourish_82 rfl rfl H
        · replace H := wp_t c4 H
          refine ar_iconst (iI (0)) dX9_readFlourish_64 rfl ?_
          replace H := wp_s H
          exact ar_iret dX9_readFlourish_65 rfl rfl H
      · replace H := wp_f c3 H
        refine rl_a2 dX9_readFlourish_44 ?_
        refine ar_iconst (iI (3)) dX9_readFlourish_45 rfl ?_
        obtain ⟨a5, e5, H⟩ := wp_b H
        refine rc_V1i dX9_readFlourish_46 ml_X9_101 mc_X10_fail (c_X10_fail e5) rfl rfl rfl (ok_X rfl) rfl rfl rfl ?_
        obtain ⟨b1, H⟩ := wp_g H
        replace H := wp_s H
        exact ar_iret dX9_readFlourish_49 rfl (zb_n b1) H
    · replace H := wp_t c2 H
      refine rl_a2 dX9_readFlourish_26 ?_
      refine ar_iconst (iI (1)) dX9_readFlourish_27 rfl ?_
      obtain ⟨a3, e3, H⟩ := wp_b H
      refine rc_V1i dX9_readFlourish_28 ml_X9_101 mc_X10_fail (c_X10_fail e3) rfl rfl rfl (ok_X rfl) rfl rfl rfl ?_
      obtain ⟨b1, H⟩ := wp_g H
      replace H := wp_s H
      exact ar_iret dX9_readFlourish_31 rfl (zb_n b1) H
  · replace H := wp_f c1 H
    refine rl_a2 dX9_readFlourish_9 ?_
    refine ar_iconst (iI (5)) dX9_readFlourish_10 rfl ?_
    obtain ⟨a1, e1, H⟩ := wp_b H
    refine rc_V1i dX9_readFlourish_11 ml_X9_101 mc_X10_fail (c_X10_fail e1) rfl rfl rfl (ok_X rfl) rfl rfl rfl ?_
    obtain ⟨b1, H⟩ := wp_g H
    replace H := wp_s H
    exact ar_iret dX9_readFlourish_14 rfl (zb_n b1) H
noncomputable def f_X9_readSeed (k : Nat) (h : am_H) : Option (Int32 × am_H) :=
  if (h.1 (.inl 1) 10 0) = 0 then (am_lt (am_u h (.inl 1) 10 0 (iI (1))) (fun h1 => (f_X10_advance h1).bind (fun a1 => (f_X10_takeNumber (iI (0)) (iI (999)) a1).bind (fun a2 => if a2.1 = 0 then (some (((iI (0)), a2.2))) else (am_lt (am_u a2.2 (.inr k) 16 1 (a2.2.1 (.inl 1) 8 5)) (fun h2 => some (((iI (1)), h2)))))))) else ((f_X10_fail (iI (3)) h).bind (fun a1 => if zb a1.1 then (some ((a1.1, a1.2))) else none))
theorem c_X9_readSeed {k : Nat} (hk : k < 10) {h : am_H} {a : Int32 × am_H} (e : f_X9_readSeed k h = some a) : am_Mi yX9_readSeed cX9_readSeed 3 (some .boolean) 4 88 [am_r (.inl 1) 10, am_r (.inr k) 16, am_r (.inl 1) 8] h a.1 a.2 := by
  refine am_M.ofi (A := [some (am_r (.inl 1) 10), some (am_r (.inr k) 16), some (am_r (.inl 1) 8)]) (by decide +kernel) rfl (ble rfl) (fun Q hQ => ?_)
  have H : wp (f_X9_readSeed k h) (fun a => Q (some (am_i a.1)) a.2) := ⟨a, e, hQ⟩
  unfold f_X9_readSeed at H
  refine rl_a0 dX9_readSeed_0 ?_
  refine ar_getI dX9_readSeed_1 fg_X9_14 rfl rfl (ok_X rfl) ?_
  refine ar_if_eq 13 dX9_readSeed_4 (by decide) (fun c1 => ?_) (fun c1 => ?_)
  · replace H := wp_t c1 H
    refine rl_a0 dX9_readSeed_13 ?_
    refine ar_iconst (iI (1)) dX9_readSeed_14 rfl ?_
    refine ar_putI dX9_readSeed_15 fg_X9_14 rfl rfl (ok_X rfl) rfl rfl ?_
    replace H := wp_l H
    generalize am_u h (.inl 1) 10 0 (iI (1)) = h1 at H ⊢
    refine rl_a2 dX9_readSeed_18 ?_
    obtain ⟨a1, e1, H⟩ := wp_b H
    refine rc_V0v dX9_readSeed_19 ml_X9_111 mc_X10_advance (c_X10_advance e1) rfl rfl rfl (ok_X rfl) rfl rfl rfl ?_
    refine rl_a2 dX9_readSeed_22 ?_
    refine ar_iconst (iI (0)) dX9_readSeed_23 rfl ?_
    refine ar_sipush (iI (999)) dX9_readSeed_24 rfl ?_
    obtain ⟨a2, e2, H⟩ := wp_b H
    refine rc_V2i dX9_readSeed_27 ml_X9_114 mc_X10_takeNumber (c_X10_takeNumber e2) rfl rfl rfl (ok_X rfl) rfl rfl rfl ?_
    refine ar_if_ne 35 dX9_readSeed_30 (by decide) (fun c2 => ?_) (fun c2 => ?_)
    · replace H := wp_f c2 H
      refine rl_a1 dX9_readSeed_35 ?_
      refine rl_a2 dX9_readSeed_36 ?_
      refine ar_getI dX9_readSeed_37 fg_X9_118 rfl rfl (ok_X rfl) ?_
      refine ar_putI dX9_readSeed_40 fg_X9_170 rfl rfl (ok_P hk rfl) rfl rfl ?_
      replace H := wp_l H
      generalize am_u a2.2 (.inr k) 16 1 (a2.2.1 (.inl 1) 8 5) = h2 at H ⊢
      refine ar_iconst (iI (1)) dX9_readSeed_43 rfl ?_
      replace H := wp_s H
      exact ar_iret dX9_readSeed_44 rfl rfl H
    · replace H := wp_t c2 H
      refine ar_iconst (iI (0)) dX9_readSeed_33 rfl ?_
      replace H := wp_s H
      exact ar_iret dX9_readSeed_34 rfl rfl H
  · replace H := wp_f c1 H
    refine rl_a2 dX9_readSeed_7 ?_
    refine ar_iconst (iI (3)) dX9_readSeed_8 rfl ?_
    obtain ⟨a1, e1, H⟩ := wp_b H
    refine rc_V1i dX9_readSeed_9 ml_X9_101 mc_X10_fail (c_X10_fail e1) rfl rfl rfl (ok_X rfl) rfl rfl rfl ?_
    obtain ⟨b1, H⟩ := wp_g H
    replace H := wp_s H
    exact ar_iret dX9_readSeed_12 rfl (zb_n b1) H
noncomputable def f_X9_readSharp (k : Nat) (h : am_H) : Option (Int32 × am_H) :=
  if (h.1 (.inl 1) 10 1) = 0 then (am_lt (am_u h (.inl 1) 10 1 (iI (1))) (fun h1 => (f_X10_advance h1).bind (fun a1 => (f_X10_takeNumber (iI (1)) (iI (99)) a1).bind (fun a2 => if a2.1 = 0 then (some (((iI (0)), a2.2))) else (am_lt (am_u a2.2 (.inr k) 16 0 (a2.2.1 (.inl 1) 8 5)) (fun h2 => some (((iI (1)), h2)))))))) else ((f_X10_fail (iI (3)) h).bind (fun a1 => if zb a1.1 then (some ((a1.1, a1.2))) else none))
theorem c_X9_readSharp {k : Nat} (hk : k < 10) {h : am_H} {a : Int32 × am_H} (e : f_X9_readSharp k h = some a) : am_Mi yX9_readSharp cX9_readSharp 3 (some .boolean) 4 88 [am_r (.inl 1) 10, am_r (.inr k) 16, am_r (.inl 1) 8] h a.1 a.2 := by
  refine am_M.ofi (A := [some (am_r (.inl 1) 10), some (am_r (.inr k) 16), some (am_r (.inl 1) 8)]) (by decide +kernel) rfl (ble rfl) (fun Q hQ => ?_)
  have H : wp (f_X9_readSharp k h) (fun a => Q (some (am_i a.1)) a.2) := ⟨a, e, hQ⟩
  unfold f_X9_readSharp at H
  refine rl_a0 dX9_readSharp_0 ?_
  refine ar_getI dX9_readSharp_1 fg_X9_20 rfl rfl (ok_X rfl) ?_
  refine ar_if_eq 13 dX9_readSharp_4 (by decide) (fun c1 => ?_) (fun c1 => ?_)
  · replace H := wp_t c1 H
    refine rl_a0 dX9_readSharp_13 ?_
    refine ar_iconst (iI (1)) dX9_readSharp_14 rfl ?_
    refine ar_putI dX9_readSharp_15 fg_X9_20 rfl rfl (ok_X rfl) rfl rfl ?_
    replace H := wp_l H
    generalize am_u h (.inl 1) 10 1 (iI (1)) = h1 at H ⊢
    refine rl_a2 dX9_readSharp_18 ?_
    obtain ⟨a1, e1, H⟩ := wp_b H
    refine rc_V0v dX9_readSharp_19 ml_X9_111 mc_X10_advance (c_X10_advance e1) rfl rfl rfl (ok_X rfl) rfl rfl rfl ?_
    refine rl_a2 dX9_readSharp_22 ?_
    refine ar_iconst (iI (1)) dX9_readSharp_23 rfl ?_
    refine ar_bipush (iI (99)) dX9_readSharp_24 rfl ?_
    obtain ⟨a2, e2, H⟩ := wp_b H
    refine rc_V2i dX9_readSharp_26 ml_X9_114 mc_X10_takeNumber (c_X10_takeNumber e2) rfl rfl rfl (ok_X rfl) rfl rfl rfl ?_
    refine ar_if_ne 34 dX9_readSharp_29 (by decide) (fun c2 => ?_) (fun c2 => ?_)
    · replace H := wp_f c2 H
      refine rl_a1 dX9_readSharp_34 ?_
      refine rl_a2 dX9_readSharp_35 ?_
      refine ar_getI dX9_readSharp_36 fg_X9_118 rfl rfl (ok_X rfl) ?_
      refine ar_putI dX9_readSharp_39 fg_X9_175 rfl rfl (ok_P hk rfl) rfl rfl ?_
      replace H := wp_l H
      generalize am_u a2.2 (.inr k) 16 0 (a2.2.1 (.inl 1) 8 5) = h2 at H ⊢
      refine ar_iconst (iI (1)) dX9_readSharp_42 rfl ?_
      replace H := wp_s H
      exact ar_iret dX9_readSharp_43 rfl rfl H
    · replace H := wp_t c2 H
      refine ar_iconst (iI (0)) dX9_readSharp_32 rfl ?_
      replace H := wp_s H
      exact ar_iret dX9_readSharp_33 rfl rfl H
  · replace H := wp_f c1 H
    refine rl_a2 dX9_readSharp_7 ?_
    refine ar_iconst (iI (3)) dX9_readSharp_8 rfl ?_
    obtain ⟨a1, e1, H⟩ := wp_b H
    refine rc_V1i dX9_readSharp_9 ml_X9_101 mc_X10_fail (c_X10_fail e1) rfl rfl rfl (ok_X rfl) rfl rfl rfl ?_
    obtain ⟨b1, H⟩ := wp_g H
    replace H := wp_s H
    exact ar_iret dX9_readSharp_12 rfl (zb_n b1) H
noncomputable def f_X9_readMargin (k : Nat) (h : am_H) : Option (Int32 × am_H) :=
  if (h.1 (.inl 1) 10 2) = 0 then (am_lt (am_u h (.inl 1) 10 2 (iI (1))) (fun h1 => (f_X10_advance h1).bind (fun a1 => (f_X10_takeNumber (iI (0)) (iI (99)) a1).bind (fun a2 => if a2.1 = 0 then (some (((iI (0)), a2.2))) else (am_lt (am_u a2.2 (.inr k) 0 5 (a2.2.1 (.inl 1) 8 5)) (fun h2 => some (((iI (1)), h2)))))))) else ((f_X10_fail (iI (3)) h).bind (fun a1 => if zb a1.1 then (some ((a1.1, a1.2))) else none))
theorem c_X9_readMargin {k : Nat} (hk : k < 10) {h : am_H} {a : Int32 × am_H} (e : f_X9_readMargin k h = some a) : am_Mi yX9_readMargin cX9_readMargin 3 (some .boolean) 4 88 [am_r (.inl 1) 10, am_r (.inr k) 0, am_r (.inl 1) 8] h a.1 a.2 := by
  refine am_M.ofi (A := [some (am_r (.inl 1) 10), some (am_r (.inr k) 0), some (am_r (.inl 1) 8)]) (by decide +kernel) rfl (ble rfl) (fun Q hQ => ?_)
  have H : wp (f_X9_readMargin k h) (fun a => Q (some (am_i a.1)) a.2) := ⟨a, e, hQ⟩
  unfold f_X9_readMargin at H
  refine rl_a0 dX9_readMargin_0 ?_
  refine ar_getI dX9_readMargin_1 fg_X9_23 rfl rfl (ok_X rfl) ?_
  refine ar_if_eq 13 dX9_readMargin_4 (by decide) (fun c1 => ?_) (fun c1 => ?_)
  · replace H := wp_t c1 H
    refine rl_a0 dX9_readMargin_13 ?_
    refine ar_iconst (iI (1)) dX9_readMargin_14 rfl ?_
    refine ar_putI dX9_readMargin_15 fg_X9_23 rfl rfl (ok_X rfl) rfl rfl ?_
    replace H := wp_l H
    generalize am_u h (.inl 1) 10 2 (iI (1)) = h1 at H ⊢
    refine rl_a2 dX9_readMargin_18 ?_
    obtain ⟨a1, e1, H⟩ := wp_b H
    refine rc_V0v dX9_readMargin_19 ml_X9_111 mc_X10_advance (c_X10_advance e1) rfl rfl rfl (ok_X rfl) rfl rfl rfl ?_
    refine rl_a2 dX9_readMargin_22 ?_
    refine ar_iconst (iI (0)) dX9_readMargin_23 rfl ?_
    refine ar_bipush (iI (99)) dX9_readMargin_24 rfl ?_
    obtain ⟨a2, e2, H⟩ := wp_b H
    refine rc_V2i dX9_readMargin_26 ml_X9_114 mc_X10_takeNumber (c_X10_takeNumber e2) rfl rfl rfl (ok_X rfl) rfl rfl rfl ?_
    refine ar_if_ne 34 dX9_readMargin_29 (by decide) (fun c2 => ?_) (fun c2 => ?_)
    · replace H := wp_f c2 H
      refine rl_a1 dX9_readMargin_34 ?_
      refine rl_a2 dX9_readMargin_35 ?_
      refine ar_getI dX9_readMargin_36 fg_X9_118 rfl rfl (ok_X rfl) ?_
      refine ar_putI dX9_readMargin_39 fg_X9_177 rfl rfl (ok_P hk rfl) rfl rfl ?_
      replace H := wp_l H
      generalize am_u a2.2 (.inr k) 0 5 (a2.2.1 (.inl 1) 8 5) = h2 at H ⊢
      refine ar_iconst (iI (1)) dX9_readMargin_42 rfl ?_
      replace H := wp_s H
      exact ar_iret dX9_readMargin_43 rfl rfl H
    · replace H := wp_t c2 H
      refine ar_iconst (iI (0)) dX9_readMargin_32 rfl ?_
      replace H := wp_s H
      exact ar_iret dX9_readMargin_33 rfl rfl H
  · replace H := wp_f c1 H
    refine rl_a2 dX9_readMargin_7 ?_
    refine ar_iconst (iI (3)) dX9_readMargin_8 rfl ?_
    obtain ⟨a1, e1, H⟩ := wp_b H
    refine rc_V1i dX9_readMargin_9 ml_X9_101 mc_X10_fail (c_X10_fail e1) rfl rfl rfl (ok_X rfl) rfl rfl rfl ?_
    obtain ⟨b1, H⟩ := wp_g H
    replace H := wp_s H
    exact ar_iret dX9_readMargin_12 rfl (zb_n b1) H
noncomputable def f_X9_readStatement (k : Nat) (h : am_H) : Option (Int32 × am_H) :=
  (f_X10_isWord 0 h).bind (fun a1 => if a1 = 0 then ((f_X10_isWord 1 h).bind (fun a2 => if a2 = 0 then ((f_X10_isWord 2 h).bind (fun a3 => if a3 = 0 then ((f_X10_isWord 3 h).bind (fun a4 => if a4 = 0 then ((f_X10_isWord 4 h).bind (fun a5 => if a5 = 0 then ((f_X10_isWord 5 h).bind (fun a6 => if a6 = 0 then ((f_X10_isWord 6 h).bind (fun a7 => if a7 = 0 then ((f_X10_fail (iI (1)) h).bind (fun a8 => if zb a8.1 then (some ((a8.1, a8.2))) else none)) else ((f_X9_readMargin k h).bind (fun a8 => if zb a8.1 then (some ((a8.1, a8.2))) else none)))) else ((f_X9_readSharp k h).bind (fun a7 => if zb a7.1 then (some ((a7.1, a7.2))) else none)))) else ((f_X9_readSeed k h).bind (fun a6 => if zb a6.1 then (some ((a6.1, a6.2))) else none)))) else ((f_X9_readFlourish k h).bind (fun a5 => if zb a5.1 then (some ((a5.1, a5.2))) else none)))) else ((f_X9_readWide k h).bind (fun a4 => if zb a4.1 then (some ((a4.1, a4.2))) else none)))) else ((f_X9_readName k h).bind (fun a3 => if zb a3.1 then (some ((a3.1, a3.2))) else none)))) else ((f_X9_readArc k h).bind (fun a2 => if zb a2.1 then (some ((a2.1, a2.2))) else none)))
theorem c_X9_readStatement {k : Nat} (hk : k < 10) {h : am_H} {a : Int32 × am_H} (e : f_X9_readStatement k h = some a) : am_Mi yX9_readStatement cX9_readStatement 3 (some .boolean) 7 155 [am_r (.inl 1) 10, am_r (.inr k) 0, am_r (.inl 1) 8] h a.1 a.2 := by
  refine am_M.ofi (A := [some (am_r (.inl 1) 10), some (am_r (.inr k) 0), some (am_r (.inl 1) 8)]) (by decide +kernel) rfl (ble rfl) (fun Q hQ => ?_)
  have H : wp (f_X9_readStatement k h) (fun a => Q (some (am_i a.1)) a.2) := ⟨a, e, hQ⟩
  unfold f_X9_readStatement at H
  refine rl_a2 dX9_readStatement_0 ?_
  refine ar_ldcT dX9_readStatement_1 kt_X9_43 ?_
  obtain ⟨a1, e1, H⟩ := wp_b H
  refine rc_V1i dX9_readStatement_3 ml_X9_45 mc_X10_isWord (c_X10_isWord (by decide) e1) rfl rfl rfl (ok_X rfl) rfl rfl rfl ?_
  refine ar_if_eq 19 dX9_readStatement_6 (by decide) (fun c1 => ?_) (fun c1 => ?_)
  · replace H := wp_t c1 H
    refine rl_a2 dX9_readStatement_19 ?_
    refine ar_ldcT dX9_readStatement_20 kt_X9_57 ?_
    obtain ⟨a2, e2, H⟩ := wp_b H
    refine rc_V1i dX9_readStatement_22 ml_X9_45 mc_X10_isWord (c_X10_isWord (by decide) e2) rfl rfl rfl (ok_X rfl) rfl rfl rfl ?_
    refine ar_if_eq 38 dX9_readStatement_25 (by decide) (fun c2 => ?_) (fun c2 => ?_)
    · replace H := wp_t c2 H
      refine rl_a2 dX9_readStatement_38 ?_
      refine ar_ldcT dX9_readStatement_39 kt_X9_66 ?_
      obtain ⟨a3, e3, H⟩ := wp_b H
      refine rc_V1i dX9_readStatement_41 ml_X9_45 mc_X10_isWord (c_X10_isWord (by decide) e3) rfl rfl rfl (ok_X rfl) rfl rfl rfl ?_
      refine ar_if_eq 57 dX9_readStatement_44 (by decide) (fun c3 => ?_) (fun c3 => ?_)
      · replace H := wp_t c3 H
        refine rl_a2 dX9_readStatement_57 ?_
        refine ar_ldcT dX9_readStatement_58 kt_X9_71 ?_
        obtain ⟨a4, e4, H⟩ := wp_b H
        refine rc_V1i dX9_readStatement_60 ml_X9_45 mc_X10_isWord (c_X10_isWord (by decide) e4) rfl rfl rfl (ok_X rfl) rfl rfl rfl ?_
        refine ar_if_eq 76 dX9_readStatement_63 (by decide) (fun c4 => ?_) (fun c4 => ?_)
        · replace H := wp_t c4 H
          refine rl_a2 dX9_readStatement_76 ?_
          refine ar_ldcT dX9_readStatement_77 kt_X9_81 ?_
          obtain ⟨a5, e5, H⟩ := wp_b H
          refine rc_V1i dX9_readStatement_79 ml_X9_45 mc_X10_isWord (c_X10_isWord (by decide) e5) rfl rfl rfl (ok_X rfl) rfl rfl rfl ?_
          refine ar_if_eq 95 dX9_readStatement_82 (by decide) (fun c5 => ?_) (fun c5 => ?_)
          · replace H := wp_t c5 H
            refine rl_a2 dX9_readStatement_95 ?_
            refine ar_ldcT dX9_readStatement_96 kt_X9_91 ?_
            obtain ⟨a6, e6, H⟩ := wp_b H
            refine rc_V1i dX9_readStatement_98 ml_X9_45 mc_X10_isWord (c_X10_isWord (by decide) e6) rfl rfl rfl (ok_X rfl) rfl rfl rfl ?_
            refine ar_if_eq 114 dX9_readStatement_101 (by decide) (fun c6 => ?_) (fun c6 => ?_)
            · replace H := wp_t c6 H
              refine rl_a2 dX9_readStatement_114 ?_
              refine ar_ldcT dX9_readStatement_115 kt_X9_96 ?_
              obtain ⟨a7, e7, H⟩ := wp_b H
              refine rc_V1i dX9_readStatement_117 ml_X9_45 mc_X10_isWord (c_X10_isWord (by decide) e7) rfl rfl rfl (ok_X rfl) rfl rfl rfl ?_
              refine ar_if_eq 130 dX9_readStatement_120 (by decide) (fun c7 => ?_) (fun c7 => ?_)
              · replace H := wp_t c7 H
                refine rl_a2 dX9_readStatement_130 ?_
                refine ar_iconst (iI (1)) dX9_readStatement_131 rfl ?_
                obtain ⟨a8, e8, H⟩ := wp_b H
                refine rc_V1i dX9_readStatement_132 ml_X9_101 mc_X10_fail (c_X10_fail e8) rfl rfl rfl (ok_X rfl) rfl rfl rfl ?_
                obtain ⟨b1, H⟩ := wp_g H
                replace H := wp_s H
                exact ar_iret dX9_readStatement_135 rfl (zb_n b1) H
              · replace H := wp_f c7 H
                refine rl_a0 dX9_readStatement_123 ?_
                refine rl_a1 dX9_readStatement_124 ?_
                refine rl_a2 dX9_readStatement_125 ?_
                obtain ⟨a8, e8, H⟩ := wp_b H
                refine rc_V2i dX9_readStatement_126 ml_X9_98 mc_X9_readMargin (c_X9_readMargin hk e8) rfl rfl rfl (ok_X rfl) rfl rfl rfl ?_
                obtain ⟨b1, H⟩ := wp_g H
                replace H := wp_s H
                exact ar_iret dX9_readStatement_129 rfl (zb_n b1) H
            · replace H := wp_f c6 H
              refine rl_a0 dX9_readStatement_104 ?_
              refine rl_a1 dX9_readStatement_105 ?_
              refine rg_R (.inr k) 16 dX9_readStatement_106 fg_X9_83 rfl rfl rfl (ok_P hk rfl) ?_
              refine rl_a2 dX9_readStatement_109 ?_
              obtain ⟨a7, e7, H⟩ := wp_b H
              refine rc_V2i dX9_readStatement_110 ml_X9_93 mc_X9_readSharp (c_X9_readSharp hk e7) rfl rfl rfl (ok_X rfl) rfl rfl rfl ?_
              obtain ⟨b1, H⟩ := wp_g H
              replace H := wp_s H
              exact ar_iret dX9_readStatement_113 rfl (zb_n b1) H
          · replace H := wp_f c5 H
            refine rl_a0 dX9_readStatement_85 ?_
            refine rl_a1 dX9_readStatement_86 ?_
            refine rg_R (.inr k) 16 dX9_readStatement_87 fg_X9_83 rfl rfl rfl (ok_P hk rfl) ?_
            refine rl_a2 dX9_readStatement_90 ?_
            obtain ⟨a6, e6, H⟩ := wp_b H
            refine rc_V2i dX9_readStatement_91 ml_X9_87 mc_X9_readSeed (c_X9_readSeed hk e6) rfl rfl rfl (ok_X rfl) rfl rfl rfl ?_
            obtain ⟨b1, H⟩ := wp_g H
            replace H := wp_s H
            exact ar_iret dX9_readStatement_94 rfl (zb_n b1) H
        · replace H := wp_f c4 H
          refine rl_a0 dX9_readStatement_66 ?_
          refine rl_a1 dX9_readStatement_67 ?_
          refine rg_R (.inr k) 11 dX9_readStatement_68 fg_X9_73 rfl rfl rfl (ok_P hk rfl) ?_
          refine rl_a2 dX9_readStatement_71 ?_
          obtain ⟨a5, e5, H⟩ := wp_b H
          refine rc_V2i dX9_readStatement_72 ml_X9_77 mc_X9_readFlourish (c_X9_readFlourish hk e5) rfl rfl rfl (ok_X rfl) rfl rfl rfl ?_
          obtain ⟨b1, H⟩ := wp_g H
          replace H := wp_s H
          exact ar_iret dX9_readStatement_75 rfl (zb_n b1) H
      · replace H := wp_f c3 H
        refine rl_a0 dX9_readStatement_47 ?_
        refine rl_a1 dX9_readStatement_48 ?_
        refine rg_R (.inr k) 6 dX9_readStatement_49 fg_X9_59 rfl rfl rfl (ok_P hk rfl) ?_
        refine rl_a2 dX9_readStatement_52 ?_
        obtain ⟨a4, e4, H⟩ := wp_b H
        refine rc_V2i dX9_readStatement_53 ml_X9_68 mc_X9_readWide (c_X9_readWide hk e4) rfl rfl rfl (ok_X rfl) rfl rfl rfl ?_
        obtain ⟨b1, H⟩ := wp_g H
        replace H := wp_s H
        exact ar_iret dX9_readStatement_56 rfl (zb_n b1) H
    · replace H := wp_f c2 H
      refine rl_a0 dX9_readStatement_28 ?_
      refine rl_a1 dX9_readStatement_29 ?_
      refine rg_R (.inr k) 6 dX9_readStatement_30 fg_X9_59 rfl rfl rfl (ok_P hk rfl) ?_
      refine rl_a2 dX9_readStatement_33 ?_
      obtain ⟨a3, e3, H⟩ := wp_b H
      refine rc_V2i dX9_readStatement_34 ml_X9_62 mc_X9_readName (c_X9_readName hk e3) rfl rfl rfl (ok_X rfl) rfl rfl rfl ?_
      obtain ⟨b1, H⟩ := wp_g H
      replace H := wp_s H
      exact ar_iret dX9_readStatement_37 rfl (zb_n b1) H
  · replace H := wp_f c1 H
    refine rl_a0 dX9_readStatement_9 ?_
    refine rl_a1 dX9_readStatement_10 ?_
    refine rg_R (.inr k) 1 dX9_readStatement_11 fg_X9_49 rfl rfl rfl (ok_P hk rfl) ?_
    refine rl_a2 dX9_readStatement_14 ?_
    obtain ⟨a2, e2, H⟩ := wp_b H
    refine rc_V2i dX9_readStatement_15 ml_X9_53 mc_X9_readArc (c_X9_readArc hk e2) rfl rfl rfl (ok_X rfl) rfl rfl rfl ?_
    obtain ⟨b1, H⟩ := wp_g H
    replace H := wp_s H
    exact ar_iret dX9_readStatement_18 rfl (zb_n b1) H
noncomputable def s_X9_readInto (k : Nat) : am_S am_H → Option (am_S am_H ⊕ (Int32 × am_H)) := fun s => match s with
  | (25, [x3], [], [], h) => if (iI (500)) ≤ x3 then (some (.inr (((iI (1)), h)))) else ((f_X10_isAtEnd h).bind (fun a1 => if a1 = 0 then ((f_X9_readStatement k h).bind (fun a2 => if a2.1 = 0 then (some (.inr (((iI (0)), a2.2)))) else ((f_X10_takeSign (iI (59)) a2.2).bind (fun a3 => if a3.1 = 0 then (some (.inr (((iI (0)), a3.2)))) else (some (.inl (25, [(x3 + 1)], [], [], a3.2))))))) else (some (.inr (((iI (1)), h))))))
  | _ => none
noncomputable def f_X9_readInto_25 (k : Nat) (x3 : Int32) (h : am_H) : Option (Int32 × am_H) := lp (s_X9_readInto k) (25, [x3], [], [], h)
theorem e_X9_readInto_25 (k : Nat) (x3 : Int32) (h : am_H) : f_X9_readInto_25 k x3 h = (if (iI (500)) ≤ x3 then (some (((iI (1)), h))) else ((f_X10_isAtEnd h).bind (fun a1 => if a1 = 0 then ((f_X9_readStatement k h).bind (fun a2 => if a2.1 = 0 then (some (((iI (0)), a2.2))) else ((f_X10_takeSign (iI (59)) a2.2).bind (fun a3 => if a3.1 = 0 then (some (((iI (0)), a3.2))) else (f_X9_readInto_25 k (x3 + 1) a3.2))))) else (some (((iI (1)), h)))))) := by
  show lp _ _ = _
  rw [lp_eq, s_X9_readInto]
  simp only [lpk_i, lpk_b, lpk_l, lpk_n, lpk_j, lpk_r] <;> rfl
noncomputable def f_X9_readInto (k : Nat) (h : am_H) : Option (Int32 × am_H) :=
  (f_X5_clear k h).bind (fun a1 => am_lt (am_u a1 (.inl 1) 10 0 (iI (0))) (fun h1 => am_lt (am_u h1 (.inl 1) 10 1 (iI (0))) (fun h2 => am_lt (am_u h2 (.inl 1) 10 2 (iI (0))) (fun h3 => (f_X10_begin h3).bind (fun a2 => f_X9_readInto_25 k (iI (0)) a2)))))
theorem c_X9_readInto_L {k : Nat} (hk : k < 10) {Q : Option am_v → am_H → Prop} : ∀ s, wp (lp (s_X9_readInto k) s) (fun a => Q (some (am_i a.1)) a.2) → ((∀ x3 h, s = (25, [x3], [], [], h) → am_V RX9 cX9_readInto 4 (some .boolean) 8 177 0 0 none (am_Tm cX9_readInto (some .boolean) Q) 0 0 25 [some (am_r (.inl 1) 10), some (am_r (.inr k) 0), some (am_r (.inl 1) 8), some (am_i x3)] [] h)) := by
  refine lp_ind _ _ (fun s H => fun x3 h e => ?_)
  · subst e
    rw [s_X9_readInto] at H
    refine rl_i3 dX9_readInto_25 ?_
    refine ar_sipush (iI (500)) dX9_readInto_26 rfl ?_
    refine ar_ic_ge 65 dX9_readInto_29 (by decide) (fun c1 => ?_) (fun c1 => ?_)
    · replace H := wp_t c1 H
      refine ar_iconst (iI (1)) dX9_readInto_65 rfl ?_
      replace H := lp_re H
      exact ar_iret dX9_readInto_66 rfl rfl H
    · replace H := wp_f c1 H
      refine rl_a2 dX9_readInto_32 ?_
      obtain ⟨a1, e1, H⟩ := wp_b H
      refine rc_V0i dX9_readInto_33 ml_X9_31 mc_X10_isAtEnd (c_X10_isAtEnd e1) rfl rfl rfl (ok_X rfl) rfl rfl rfl ?_
      refine ar_if_ne 65 dX9_readInto_36 (by decide) (fun c2 => ?_) (fun c2 => ?_)
      · replace H := wp_f c2 H
        refine ar_iconst (iI (1)) dX9_readInto_65 rfl ?_
        replace H := lp_re H
        exact ar_iret dX9_readInto_66 rfl rfl H
      · replace H := wp_t c2 H
        refine rl_a0 dX9_readInto_39 ?_
        refine rl_a1 dX9_readInto_40 ?_
        refine rl_a2 dX9_readInto_41 ?_
        obtain ⟨a2, e2, H⟩ := wp_b H
        refine rc_V2i dX9_readInto_42 ml_X9_35 mc_X9_readStatement (c_X9_readStatement hk e2) rfl rfl rfl (ok_X rfl) rfl rfl rfl ?_
        refine ar_if_eq 57 dX9_readInto_45 (by decide) (fun c3 => ?_) (fun c3 => ?_)
        · replace H := wp_t c3 H
          refine ar_iconst (iI (0)) dX9_readInto_57 rfl ?_
          replace H := lp_re H
          exact ar_iret dX9_readInto_58 rfl rfl H
        · replace H := wp_f c3 H
          refine rl_a2 dX9_readInto_48 ?_
          refine ar_bipush (iI (59)) dX9_readInto_49 rfl ?_
          obtain ⟨a3, e3, H⟩ := wp_b H
          refine rc_V1i dX9_readInto_51 ml_X9_39 mc_X10_takeSign (c_X10_takeSign e3) rfl rfl rfl (ok_X rfl) rfl rfl rfl ?_
          refine ar_if_ne 59 dX9_readInto_54 (by decide) (fun c4 => ?_) (fun c4 => ?_)
          · replace H := wp_f c4 H
            refine rn_1_3 dX9_readInto_59 rfl trivial ?_
            refine ar_goto 25 dX9_readInto_62 (by decide) ?_
            exact am_V.wk (am_s (am_s (am_s (am_s am_0)))) ((lp_in H) _ _ rfl)
          · replace H := wp_t c4 H
            refine ar_iconst (iI (0)) dX9_readInto_57 rfl ?_
            replace H := lp_re H
            exact ar_iret dX9_readInto_58 rfl rfl H
theorem c_X9_readInto {k : Nat} (hk : k < 10) {h : am_H} {a : Int32 × am_H} (e : f_X9_readInto k h = some a) : am_Mi yX9_readInto cX9_readInto 4 (some .boolean) 8 177 [am_r (.inl 1) 10, am_r (.inr k) 0, am_r (.inl 1) 8] h a.1 a.2 := by
  refine am_M.ofi (A := [some (am_r (.inl 1) 10), some (am_r (.inr k) 0), some (am_r (.inl 1) 8), none]) (by decide +kernel) rfl (ble rfl) (fun Q hQ => ?_)
  have H : wp (f_X9_readInto k h) (fun a => Q (some (am_i a.1)) a.2) := ⟨a, e, hQ⟩
  unfold f_X9_readInto at H
  refine rl_a1 dX9_readInto_0 ?_
  obtain ⟨a1, e1, H⟩ := wp_b H
  refine rc_V0v dX9_readInto_1 ml_X9_9 mc_X5_clear (c_X5_clear hk e1) rfl rfl rfl (ok_P hk rfl) rfl rfl rfl ?_
  refine rl_a0 dX9_readInto_4 ?_
  refine ar_iconst (iI (0)) dX9_readInto_5 rfl ?_
  refine ar_putI dX9_readInto_6 fg_X9_14 rfl rfl (ok_X rfl) rfl rfl ?_
  replace H := wp_l H
  generalize am_u a1 (.inl 1) 10 0 (iI (0)) = h1 at H ⊢
  refine rl_a0 dX9_readInto_9 ?_
  refine ar_iconst (iI (0)) dX9_readInto_10 rfl ?_
  refine ar_putI dX9_readInto_11 fg_X9_20 rfl rfl (ok_X rfl) rfl rfl ?_
  replace H := wp_l H
  generalize am_u h1 (.inl 1) 10 1 (iI (0)) = h2 at H ⊢
  refine rl_a0 dX9_readInto_14 ?_
  refine ar_iconst (iI (0)) dX9_readInto_15 rfl ?_
  refine ar_putI dX9_readInto_16 fg_X9_23 rfl rfl (ok_X rfl) rfl rfl ?_
  replace H := wp_l H
  generalize am_u h2 (.inl 1) 10 2 (iI (0)) = h3 at H ⊢
  refine rl_a2 dX9_readInto_19 ?_
  obtain ⟨a2, e2, H⟩ := wp_b H
  refine rc_V0v dX9_readInto_20 ml_X9_26 mc_X10_begin (c_X10_begin e2) rfl rfl rfl (ok_X rfl) rfl rfl rfl ?_
  refine ar_iconst (iI (0)) dX9_readInto_23 rfl ?_
  refine rs_i3 dX9_readInto_24 rfl trivial ?_
  exact am_V.wk (am_s (am_s (am_s (am_s am_0)))) ((c_X9_readInto_L hk _ H) _ _ rfl)
