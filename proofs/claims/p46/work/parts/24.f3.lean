noncomputable def f_X9_readArc (k : Nat) (h : am_H) : Option (Int32 × am_H) :=
  if (h.1 (.inr k) 1 4) < (iI (8)) then ((f_X10_advance h).bind (fun a1 => (f_X10_takeNumber (iI (1)) (iI (99)) a1).bind (fun a2 => if a2.1 = 0 then (some (((iI (0)), a2.2))) else ((f_X10_takeNumber (iI (1)) (iI (180)) a2.2).bind (fun a3 => if a3.1 = 0 then (some (((iI (0)), a3.2))) else ((f_X10_takeIfWord 7 a3.2).bind (fun a4 => (f_X10_takeIfWord 8 a4.2).bind (fun a5 => if a5.1 = 0 then ((f_X0_addArc k (a2.2.1 (.inl 1) 8 5) (a3.2.1 (.inl 1) 8 5) a4.1 (iI (30)) a5.2).bind (fun a6 => some (((iI (1)), a6)))) else ((f_X10_takeNumber (iI (0)) (iI (99)) a5.2).bind (fun a6 => if a6.1 = 0 then (some (((iI (0)), a6.2))) else ((f_X0_addArc k (a2.2.1 (.inl 1) 8 5) (a3.2.1 (.inl 1) 8 5) a4.1 (a6.2.1 (.inl 1) 8 5) a6.2).bind (fun a7 => some (((iI (1)), a7)))))))))))))) else ((f_X10_fail (iI (5)) h).bind (fun a1 => if zb a1.1 then (some ((a1.1, a1.2))) else none))
theorem c_X9_readArc {k : Nat} (hk : k < 10) {h : am_H} {a : Int32 × am_H} (e : f_X9_readArc k h = some a) : am_Mi yX9_readArc cX9_readArc 7 (some .boolean) 6 129 [am_r (.inl 1) 10, am_r (.inr k) 1, am_r (.inl 1) 8] h a.1 a.2 := by
  refine am_M.ofi (A := [some (am_r (.inl 1) 10), some (am_r (.inr k) 1), some (am_r (.inl 1) 8), none, none, none, none]) (by decide +kernel) rfl (ble rfl) (fun Q hQ => ?_)
  have H : wp (f_X9_readArc k h) (fun a => Q (some (am_i a.1)) a.2) := ⟨_, e, hQ⟩
  unfold f_X9_readArc at H
  refine rl_a1 dX9_readArc_0 ?_
  refine ar_getI dX9_readArc_1 fg_X9_105 rfl rfl (ok_P hk rfl) ?_
  refine ar_bipush (iI (8)) dX9_readArc_4 rfl ?_
  refine ar_ic_lt 15 dX9_readArc_6 (by decide) (fun c1 => ?_) (fun c1 => ?_)
  · replace H := wp_t c1 H
    refine rl_a2 dX9_readArc_15 ?_
    obtain ⟨a1, e1, H⟩ := wp_b H
    refine rc_V0v dX9_readArc_16 ml_X9_111 mc_X10_advance (c_X10_advance e1) rfl rfl rfl (ok_X rfl) rfl rfl rfl ?_
    refine rl_a2 dX9_readArc_19 ?_
    refine ar_iconst (iI (1)) dX9_readArc_20 rfl ?_
    refine ar_bipush (iI (99)) dX9_readArc_21 rfl ?_
    obtain ⟨a2, e2, H⟩ := wp_b H
    refine rc_V2i dX9_readArc_23 ml_X9_114 mc_X10_takeNumber (c_X10_takeNumber e2) rfl rfl rfl (ok_X rfl) rfl rfl rfl ?_
    refine ar_if_ne 31 dX9_readArc_26 (by decide) (fun c2 => ?_) (fun c2 => ?_)
    · replace H := wp_f c2 H
      refine rl_a2 dX9_readArc_31 ?_
      refine ar_getI dX9_readArc_32 fg_X9_118 rfl rfl (ok_X rfl) ?_
      refine rs_i3 dX9_readArc_35 rfl trivial ?_
      refine rl_a2 dX9_readArc_36 ?_
      refine ar_iconst (iI (1)) dX9_readArc_37 rfl ?_
      refine ar_sipush (iI (180)) dX9_readArc_38 rfl ?_
      obtain ⟨a3, e3, H⟩ := wp_b H
      refine rc_V2i dX9_readArc_41 ml_X9_114 mc_X10_takeNumber (c_X10_takeNumber e3) rfl rfl rfl (ok_X rfl) rfl rfl rfl ?_
      refine ar_if_ne 49 dX9_readArc_44 (by decide) (fun c3 => ?_) (fun c3 => ?_)
      · replace H := wp_f c3 H
        refine rl_a2 dX9_readArc_49 ?_
        refine ar_getI dX9_readArc_50 fg_X9_118 rfl rfl (ok_X rfl) ?_
        refine rs_i4 dX9_readArc_53 rfl trivial ?_
        refine rl_a2 dX9_readArc_55 ?_
        refine ar_ldcT dX9_readArc_56 kt_X9_121 ?_
        obtain ⟨a4, e4, H⟩ := wp_b H
        refine rc_V1i dX9_readArc_58 ml_X9_123 mc_X10_takeIfWord (c_X10_takeIfWord (by decide) e4) rfl rfl rfl (ok_X rfl) rfl rfl rfl ?_
        refine rs_i5 dX9_readArc_61 rfl trivial ?_
        refine ar_bipush (iI (30)) dX9_readArc_63 rfl ?_
        refine rs_i6 dX9_readArc_65 rfl trivial ?_
        refine rl_a2 dX9_readArc_67 ?_
        refine ar_ldcT dX9_readArc_68 kt_X9_126 ?_
        obtain ⟨a5, e5, H⟩ := wp_b H
        refine rc_V1i dX9_readArc_70 ml_X9_123 mc_X10_takeIfWord (c_X10_takeIfWord (by decide) e5) rfl rfl rfl (ok_X rfl) rfl rfl rfl ?_
        refine ar_if_eq 94 dX9_readArc_73 (by decide) (fun c4 => ?_) (fun c4 => ?_)
        · replace H := wp_t c4 H
          refine rl_a1 dX9_readArc_94 ?_
          refine rl_i3 dX9_readArc_95 ?_
          refine rl_i4 dX9_readArc_96 ?_
          refine rl_i5 dX9_readArc_98 ?_
          refine rl_i6 dX9_readArc_100 ?_
          obtain ⟨a6, e6, H⟩ := wp_b H
          refine rc_V4v dX9_readArc_102 ml_X9_128 mc_X0_addArc (c_X0_addArc hk e6) rfl rfl rfl (ok_P hk rfl) rfl rfl rfl ?_
          refine ar_iconst (iI (1)) dX9_readArc_105 rfl ?_
          replace H := wp_s H
          exact ar_iret dX9_readArc_106 rfl rfl H
        · replace H := wp_f c4 H
          refine rl_a2 dX9_readArc_76 ?_
          refine ar_iconst (iI (0)) dX9_readArc_77 rfl ?_
          refine ar_bipush (iI (99)) dX9_readArc_78 rfl ?_
          obtain ⟨a6, e6, H⟩ := wp_b H
          refine rc_V2i dX9_readArc_80 ml_X9_114 mc_X10_takeNumber (c_X10_takeNumber e6) rfl rfl rfl (ok_X rfl) rfl rfl rfl ?_
          refine ar_if_ne 88 dX9_readArc_83 (by decide) (fun c5 => ?_) (fun c5 => ?_)
          · replace H := wp_f c5 H
            refine rl_a2 dX9_readArc_88 ?_
            refine ar_getI dX9_readArc_89 fg_X9_118 rfl rfl (ok_X rfl) ?_
            refine rs_i6 dX9_readArc_92 rfl trivial ?_
            refine rl_a1 dX9_readArc_94 ?_
            refine rl_i3 dX9_readArc_95 ?_
            refine rl_i4 dX9_readArc_96 ?_
            refine rl_i5 dX9_readArc_98 ?_
            refine rl_i6 dX9_readArc_100 ?_
            obtain ⟨a7, e7, H⟩ := wp_b H
            refine rc_V4v dX9_readArc_102 ml_X9_128 mc_X0_addArc (c_X0_addArc hk e7) rfl rfl rfl (ok_P hk rfl) rfl rfl rfl ?_
            refine ar_iconst (iI (1)) dX9_readArc_105 rfl ?_
            replace H := wp_s H
            exact ar_iret dX9_readArc_106 rfl rfl H
          · replace H := wp_t c5 H
            refine ar_iconst (iI (0)) dX9_readArc_86 rfl ?_
            replace H := wp_s H
            exact ar_iret dX9_readArc_87 rfl rfl H
      · replace H := wp_t c3 H
        refine ar_iconst (iI (0)) dX9_readArc_47 rfl ?_
        replace H := wp_s H
        exact ar_iret dX9_readArc_48 rfl rfl H
    · replace H := wp_t c2 H
      refine ar_iconst (iI (0)) dX9_readArc_29 rfl ?_
      replace H := wp_s H
      exact ar_iret dX9_readArc_30 rfl rfl H
  · replace H := wp_f c1 H
    refine rl_a2 dX9_readArc_9 ?_
    refine ar_iconst (iI (5)) dX9_readArc_10 rfl ?_
    obtain ⟨a1, e1, H⟩ := wp_b H
    refine rc_V1i dX9_readArc_11 ml_X9_101 mc_X10_fail (c_X10_fail e1) rfl rfl rfl (ok_X rfl) rfl rfl rfl ?_
    obtain ⟨b1, H⟩ := wp_g H
    replace H := wp_s H
    exact ar_iret dX9_readArc_14 rfl (zb_n b1) H
noncomputable def f_X9_readName (k : Nat) (h : am_H) : Option (Int32 × am_H) :=
  (f_X10_advance h).bind (fun a1 => (f_X10_isAnyWord a1).bind (fun a2 => if a2 = 0 then ((f_X10_fail (iI (1)) a1).bind (fun a3 => if zb a3.1 then (some ((a3.1, a3.2))) else none)) else (if (((a1.1 (.inr k) 6 4) + (a1.1 (.inl 1) 8 4)) - (a1.1 (.inl 1) 8 3)) ≤ (iI (20)) then ((f_X4_addWord k (a1.1 (.inl 1) 8 3) (a1.1 (.inl 1) 8 4) a1).bind (fun a3 => (f_X10_advance a3).bind (fun a4 => some (((iI (1)), a4))))) else ((f_X10_fail (iI (5)) a1).bind (fun a3 => if zb a3.1 then (some ((a3.1, a3.2))) else none)))))
theorem c_X9_readName {k : Nat} (hk : k < 10) {h : am_H} {a : Int32 × am_H} (e : f_X9_readName k h = some a) : am_Mi yX9_readName cX9_readName 3 (some .boolean) 4 89 [am_r (.inl 1) 10, am_r (.inr k) 6, am_r (.inl 1) 8] h a.1 a.2 := by
  refine am_M.ofi (A := [some (am_r (.inl 1) 10), some (am_r (.inr k) 6), some (am_r (.inl 1) 8)]) (by decide +kernel) rfl (ble rfl) (fun Q hQ => ?_)
  have H : wp (f_X9_readName k h) (fun a => Q (some (am_i a.1)) a.2) := ⟨_, e, hQ⟩
  unfold f_X9_readName at H
  refine rl_a2 dX9_readName_0 ?_
  obtain ⟨a1, e1, H⟩ := wp_b H
  refine rc_V0v dX9_readName_1 ml_X9_111 mc_X10_advance (c_X10_advance e1) rfl rfl rfl (ok_X rfl) rfl rfl rfl ?_
  refine rl_a2 dX9_readName_4 ?_
  obtain ⟨a2, e2, H⟩ := wp_b H
  refine rc_V0i dX9_readName_5 ml_X9_132 mc_X10_isAnyWord (c_X10_isAnyWord e2) rfl rfl rfl (ok_X rfl) rfl rfl rfl ?_
  refine ar_if_ne 17 dX9_readName_8 (by decide) (fun c1 => ?_) (fun c1 => ?_)
  · replace H := wp_f c1 H
    refine rl_a1 dX9_readName_17 ?_
    refine ar_getI dX9_readName_18 fg_X9_135 rfl rfl (ok_P hk rfl) ?_
    refine rl_a2 dX9_readName_21 ?_
    refine ar_getI dX9_readName_22 fg_X9_140 rfl rfl (ok_X rfl) ?_
    refine ar_iadd dX9_readName_25 ?_
    refine rl_a2 dX9_readName_26 ?_
    refine ar_getI dX9_readName_27 fg_X9_143 rfl rfl (ok_X rfl) ?_
    refine ar_isub dX9_readName_30 ?_
    refine ar_bipush (iI (20)) dX9_readName_31 rfl ?_
    refine ar_ic_le 42 dX9_readName_33 (by decide) (fun c2 => ?_) (fun c2 => ?_)
    · replace H := wp_t c2 H
      refine rl_a1 dX9_readName_42 ?_
      refine rl_a2 dX9_readName_43 ?_
      refine rl_a2 dX9_readName_44 ?_
      refine ar_getI dX9_readName_45 fg_X9_143 rfl rfl (ok_X rfl) ?_
      refine rl_a2 dX9_readName_48 ?_
      refine ar_getI dX9_readName_49 fg_X9_140 rfl rfl (ok_X rfl) ?_
      obtain ⟨a3, e3, H⟩ := wp_b H
      refine rc_V3v dX9_readName_52 ml_X9_146 mc_X4_addWord (c_X4_addWord hk e3) rfl rfl rfl (ok_P hk rfl) rfl rfl rfl ?_
      refine rl_a2 dX9_readName_55 ?_
      obtain ⟨a4, e4, H⟩ := wp_b H
      refine rc_V0v dX9_readName_56 ml_X9_111 mc_X10_advance (c_X10_advance e4) rfl rfl rfl (ok_X rfl) rfl rfl rfl ?_
      refine ar_iconst (iI (1)) dX9_readName_59 rfl ?_
      replace H := wp_s H
      exact ar_iret dX9_readName_60 rfl rfl H
    · replace H := wp_f c2 H
      refine rl_a2 dX9_readName_36 ?_
      refine ar_iconst (iI (5)) dX9_readName_37 rfl ?_
      obtain ⟨a3, e3, H⟩ := wp_b H
      refine rc_V1i dX9_readName_38 ml_X9_101 mc_X10_fail (c_X10_fail e3) rfl rfl rfl (ok_X rfl) rfl rfl rfl ?_
      obtain ⟨b1, H⟩ := wp_g H
      replace H := wp_s H
      exact ar_iret dX9_readName_41 rfl (zb_n b1) H
  · replace H := wp_t c1 H
    refine rl_a2 dX9_readName_11 ?_
    refine ar_iconst (iI (1)) dX9_readName_12 rfl ?_
    obtain ⟨a3, e3, H⟩ := wp_b H
    refine rc_V1i dX9_readName_13 ml_X9_101 mc_X10_fail (c_X10_fail e3) rfl rfl rfl (ok_X rfl) rfl rfl rfl ?_
    obtain ⟨b1, H⟩ := wp_g H
    replace H := wp_s H
    exact ar_iret dX9_readName_16 rfl (zb_n b1) H
noncomputable def f_X9_readWide (k : Nat) (h : am_H) : Option (Int32 × am_H) :=
  (f_X10_advance h).bind (fun a1 => (f_X10_isAnyWord a1).bind (fun a2 => if a2 = 0 then ((f_X10_fail (iI (1)) a1).bind (fun a3 => if zb a3.1 then (some ((a3.1, a3.2))) else none)) else ((f_X10_advance a1).bind (fun a3 => (f_X10_takeNumber (iI (1)) (iI (99)) a3).bind (fun a4 => if a4.1 = 0 then (some (((iI (0)), a4.2))) else ((f_X4_widenWord k (a1.1 (.inl 1) 8 3) (a1.1 (.inl 1) 8 4) (a4.2.1 (.inl 1) 8 5) a4.2).bind (fun a5 => some (((iI (1)), a5)))))))))
theorem c_X9_readWide {k : Nat} (hk : k < 10) {h : am_H} {a : Int32 × am_H} (e : f_X9_readWide k h = some a) : am_Mi yX9_readWide cX9_readWide 5 (some .boolean) 4 90 [am_r (.inl 1) 10, am_r (.inr k) 6, am_r (.inl 1) 8] h a.1 a.2 := by
  refine am_M.ofi (A := [some (am_r (.inl 1) 10), some (am_r (.inr k) 6), some (am_r (.inl 1) 8), none, none]) (by decide +kernel) rfl (ble rfl) (fun Q hQ => ?_)
  have H : wp (f_X9_readWide k h) (fun a => Q (some (am_i a.1)) a.2) := ⟨_, e, hQ⟩
  unfold f_X9_readWide at H
  refine rl_a2 dX9_readWide_0 ?_
  obtain ⟨a1, e1, H⟩ := wp_b H
  refine rc_V0v dX9_readWide_1 ml_X9_111 mc_X10_advance (c_X10_advance e1) rfl rfl rfl (ok_X rfl) rfl rfl rfl ?_
  refine rl_a2 dX9_readWide_4 ?_
  obtain ⟨a2, e2, H⟩ := wp_b H
  refine rc_V0i dX9_readWide_5 ml_X9_132 mc_X10_isAnyWord (c_X10_isAnyWord e2) rfl rfl rfl (ok_X rfl) rfl rfl rfl ?_
  refine ar_if_ne 17 dX9_readWide_8 (by decide) (fun c1 => ?_) (fun c1 => ?_)
  · replace H := wp_f c1 H
    refine rl_a2 dX9_readWide_17 ?_
    refine ar_getI dX9_readWide_18 fg_X9_143 rfl rfl (ok_X rfl) ?_
    refine rs_i3 dX9_readWide_21 rfl trivial ?_
    refine rl_a2 dX9_readWide_22 ?_
    refine ar_getI dX9_readWide_23 fg_X9_140 rfl rfl (ok_X rfl) ?_
    refine rs_i4 dX9_readWide_26 rfl trivial ?_
    refine rl_a2 dX9_readWide_28 ?_
    obtain ⟨a3, e3, H⟩ := wp_b H
    refine rc_V0v dX9_readWide_29 ml_X9_111 mc_X10_advance (c_X10_advance e3) rfl rfl rfl (ok_X rfl) rfl rfl rfl ?_
    refine rl_a2 dX9_readWide_32 ?_
    refine ar_iconst (iI (1)) dX9_readWide_33 rfl ?_
    refine ar_bipush (iI (99)) dX9_readWide_34 rfl ?_
    obtain ⟨a4, e4, H⟩ := wp_b H
    refine rc_V2i dX9_readWide_36 ml_X9_114 mc_X10_takeNumber (c_X10_takeNumber e4) rfl rfl rfl (ok_X rfl) rfl rfl rfl ?_
    refine ar_if_ne 44 dX9_readWide_39 (by decide) (fun c2 => ?_) (fun c2 => ?_)
    · replace H := wp_f c2 H
      refine rl_a1 dX9_readWide_44 ?_
      refine rl_a2 dX9_readWide_45 ?_
      refine rl_i3 dX9_readWide_46 ?_
      refine rl_i4 dX9_readWide_47 ?_
      refine rl_a2 dX9_readWide_49 ?_
      refine ar_getI dX9_readWide_50 fg_X9_118 rfl rfl (ok_X rfl) ?_
      obtain ⟨a5, e5, H⟩ := wp_b H
      refine rc_V4v dX9_readWide_53 ml_X9_150 mc_X4_widenWord (c_X4_widenWord hk e5) rfl rfl rfl (ok_P hk rfl) rfl rfl rfl ?_
      refine ar_iconst (iI (1)) dX9_readWide_56 rfl ?_
      replace H := wp_s H
      exact ar_iret dX9_readWide_57 rfl rfl H
    · replace H := wp_t c2 H
      refine ar_iconst (iI (0)) dX9_readWide_42 rfl ?_
      replace H := wp_s H
      exact ar_iret dX9_readWide_43 rfl rfl H
  · replace H := wp_t c1 H
    refine rl_a2 dX9_readWide_11 ?_
    refine ar_iconst (iI (1)) dX9_readWide_12 rfl ?_
    obtain ⟨a3, e3, H⟩ := wp_b H
    refine rc_V1i dX9_readWide_13 ml_X9_101 mc_X10_fail (c_X10_fail e3) rfl rfl rfl (ok_X rfl) rfl rfl rfl ?_
    obtain ⟨b1, H⟩ := wp_g H
    replace H := wp_s H
    exact ar_iret dX9_readWide_16 rfl (zb_n b1) H
noncomputable def f_X9_readFlourish (k : Nat) (h : am_H) : Option (Int32 × am_H) :=
  if (h.1 (.inr k) 11 4) < (iI (6)) then ((f_X10_advance h).bind (fun a1 => (f_X10_isAnyWord a1).bind (fun a2 => if a2 = 0 then ((f_X10_fail (iI (1)) a1).bind (fun a3 => if zb a3.1 then (some ((a3.1, a3.2))) else none)) else ((f_X2_beginKind k a1).bind (fun a3 => (f_X2_isBegunNameTaken k a3).bind (fun a4 => if a4 = 0 then ((f_X10_advance a3).bind (fun a5 => (f_X10_takeNumber (iI (1)) (iI (99)) a5).bind (fun a6 => if a6.1 = 0 then (some (((iI (0)), a6.2))) else ((f_X10_takeNumber (iI (1)) (iI (99)) a6.2).bind (fun a7 => if a7.1 = 0 then (some (((iI (0)), a7.2))) else ((f_X10_takeNumber (iI (1)) (iI (9)) a7.2).bind (fun a8 => if a8.1 = 0 then (some (((iI (0)), a8.2))) else ((f_X2_endKind k (a6.2.1 (.inl 1) 8 5) (a7.2.1 (.inl 1) 8 5) (a8.2.1 (.inl 1) 8 5) a8.2).bind (fun a9 => some (((iI (1)), a9))))))))))) else ((f_X10_fail (iI (3)) a3).bind (fun a5 => if zb a5.1 then (some ((a5.1, a5.2))) else none)))))))) else ((f_X10_fail (iI (5)) h).bind (fun a1 => if zb a1.1 then (some ((a1.1, a1.2))) else none))
theorem c_X9_readFlourish {k : Nat} (hk : k < 10) {h : am_H} {a : Int32 × am_H} (e : f_X9_readFlourish k h = some a) : am_Mi yX9_readFlourish cX9_readFlourish 5 (some .boolean) 4 88 [am_r (.inl 1) 10, am_r (.inr k) 11, am_r (.inl 1) 8] h a.1 a.2 := by
  refine am_M.ofi (A := [some (am_r (.inl 1) 10), some (am_r (.inr k) 11), some (am_r (.inl 1) 8), none, none]) (by decide +kernel) rfl (ble rfl) (fun Q hQ => ?_)
  have H : wp (f_X9_readFlourish k h) (fun a => Q (some (am_i a.1)) a.2) := ⟨_, e, hQ⟩
  unfold f_X9_readFlourish at H
  refine rl_a1 dX9_readFlourish_0 ?_
  refine ar_getI dX9_readFlourish_1 fg_X9_154 rfl rfl (ok_P hk rfl) ?_
  refine ar_bipush (iI (6)) dX9_readFlourish_4 rfl ?_
  refine ar_ic_lt 15 dX9_readFlourish_6 (by decide) (fun c1 => ?_) (fun c1 => ?_)
  · replace H := wp_t c1 H
    refine rl_a2 dX9_readFlourish_15 ?_
    obtain ⟨a1, e1, H⟩ := wp_b H
    refine rc_V0v dX9_readFlourish_16 ml_X9_111 mc_X10_advance (c_X10_advance e1) rfl rfl rfl (ok_X rfl) rfl rfl rfl ?_
    refine rl_a2 dX9_readFlourish_19 ?_
    obtain ⟨a2, e2, H⟩ := wp_b H
    refine rc_V0i dX9_readFlourish_20 ml_X9_132 mc_X10_isAnyWord (c_X10_isAnyWord e2) rfl rfl rfl (ok_X rfl) rfl rfl rfl ?_
    refine ar_if_ne 32 dX9_readFlourish_23 (by decide) (fun c2 => ?_) (fun c2 => ?_)
    · replace H := wp_f c2 H
      refine rl_a1 dX9_readFlourish_32 ?_
      refine rl_a2 dX9_readFlourish_33 ?_
      obtain ⟨a3, e3, H⟩ := wp_b H
      refine rc_V1v dX9_readFlourish_34 ml_X9_159 mc_X2_beginKind (c_X2_beginKind hk e3) rfl rfl rfl (ok_P hk rfl) rfl rfl rfl ?_
      refine rl_a1 dX9_readFlourish_37 ?_
      obtain ⟨a4, e4, H⟩ := wp_b H
      refine rc_V0i dX9_readFlourish_38 ml_X9_163 mc_X2_isBegunNameTaken (c_X2_isBegunNameTaken hk e4) rfl rfl rfl (ok_P hk rfl) rfl rfl rfl ?_
      refine ar_if_eq 50 dX9_readFlourish_41 (by decide) (fun c3 => ?_) (fun c3 => ?_)
      · replace H := wp_t c3 H
        refine rl_a2 dX9_readFlourish_50 ?_
        obtain ⟨a5, e5, H⟩ := wp_b H
        refine rc_V0v dX9_readFlourish_51 ml_X9_111 mc_X10_advance (c_X10_advance e5) rfl rfl rfl (ok_X rfl) rfl rfl rfl ?_
        refine rl_a2 dX9_readFlourish_54 ?_
        refine ar_iconst (iI (1)) dX9_readFlourish_55 rfl ?_
        refine ar_bipush (iI (99)) dX9_readFlourish_56 rfl ?_
        obtain ⟨a6, e6, H⟩ := wp_b H
        refine rc_V2i dX9_readFlourish_58 ml_X9_114 mc_X10_takeNumber (c_X10_takeNumber e6) rfl rfl rfl (ok_X rfl) rfl rfl rfl ?_
        refine ar_if_ne 66 dX9_readFlourish_61 (by decide) (fun c4 => ?_) (fun c4 => ?_)
        · replace H := wp_f c4 H
          refine rl_a2 dX9_readFlourish_66 ?_
          refine ar_getI dX9_readFlourish_67 fg_X9_118 rfl rfl (ok_X rfl) ?_
          refine rs_i3 dX9_readFlourish_70 rfl trivial ?_
          refine rl_a2 dX9_readFlourish_71 ?_
          refine ar_iconst (iI (1)) dX9_readFlourish_72 rfl ?_
          refine ar_bipush (iI (99)) dX9_readFlourish_73 rfl ?_
          obtain ⟨a7, e7, H⟩ := wp_b H
          refine rc_V2i dX9_readFlourish_75 ml_X9_114 mc_X10_takeNumber (c_X10_takeNumber e7) rfl rfl rfl (ok_X rfl) rfl rfl rfl ?_
          refine ar_if_ne 83 dX9_readFlourish_78 (by decide) (fun c5 => ?_) (fun c5 => ?_)
          · replace H := wp_f c5 H
            refine rl_a2 dX9_readFlourish_83 ?_
            refine ar_getI dX9_readFlourish_84 fg_X9_118 rfl rfl (ok_X rfl) ?_
            refine rs_i4 dX9_readFlourish_87 rfl trivial ?_
            refine rl_a2 dX9_readFlourish_89 ?_
            refine ar_iconst (iI (1)) dX9_readFlourish_90 rfl ?_
            refine ar_bipush (iI (9)) dX9_readFlourish_91 rfl ?_
            obtain ⟨a8, e8, H⟩ := wp_b H
            refine rc_V2i dX9_readFlourish_93 ml_X9_114 mc_X10_takeNumber (c_X10_takeNumber e8) rfl rfl rfl (ok_X rfl) rfl rfl rfl ?_
            refine ar_if_ne 101 dX9_readFlourish_96 (by decide) (fun c6 => ?_) (fun c6 => ?_)
            · replace H := wp_f c6 H
              refine rl_a1 dX9_readFlourish_101 ?_
              refine rl_i3 dX9_readFlourish_102 ?_
              refine rl_i4 dX9_readFlourish_103 ?_
              refine rl_a2 dX9_readFlourish_105 ?_
              refine ar_getI dX9_readFlourish_106 fg_X9_118 rfl rfl (ok_X rfl) ?_
              obtain ⟨a9, e9, H⟩ := wp_b H
              refine rc_V3v dX9_readFlourish_109 ml_X9_166 mc_X2_endKind (c_X2_endKind hk e9) rfl rfl rfl (ok_P hk rfl) rfl rfl rfl ?_
              refine ar_iconst (iI (1)) dX9_readFlourish_112 rfl ?_
              replace H := wp_s H
              exact ar_iret dX9_readFlourish_113 rfl rfl H
            · replace H := wp_t c6 H
              refine ar_iconst (iI (0)) dX9_readFlourish_99 rfl ?_
              replace H := wp_s H
              exact ar_iret dX9_readFlourish_100 rfl rfl H
          · replace H := wp_t c5 H
            refine ar_iconst (iI (0)) dX9_readFlourish_81 rfl ?_
            replace H := wp_s H
            exact ar_iret dX9_readFlourish_82 rfl rfl H
        · replace H := wp_t c4 H
          refine ar_iconst (iI (0)) dX9_readFlourish_64 rfl ?_
          replace H := wp_s H
          exact ar_iret dX9_readFlourish_65 rfl rfl H
      · replace H := wp_f c3 H
        refine rl_a2 dX9_readFlourish_44 ?_
        refine ar_iconst (iI (3)) dX9_readFlourish_45 rfl ?_
        obtain ⟨a5, e5, H⟩ := wp_b H
        refine rc_V1i dX9_readFlourish_46 ml_X9_101 mc_X10_fail (c_X10_fail e5) rfl rfl rfl (ok_X rfl) rfl rfl rfl ?_
        obtain ⟨b1, H⟩ := wp_g H
        replace H := wp_s H
        exact ar_iret dX9_readFlourish_49 rfl (zb_n b1) H
    · replace H := wp_t c2 H
      refine rl_a2 dX9_readFlourish_26 ?_
      refine ar_iconst (iI (1)) dX9_readFlourish_27 rfl ?_
      obtain ⟨a3, e3, H⟩ := wp_b H
      refine rc_V1i dX9_readFlourish_28 ml_X9_101 mc_X10_fail (c_X10_fail e3) rfl rfl rfl (ok_X rfl) rfl rfl rfl ?_
      obtain ⟨b1, H⟩ := wp_g H
      replace H := wp_s H
      exact ar_iret dX9_readFlourish_31 rfl (zb_n b1) H
  · replace H := wp_f c1 H
    refine rl_a2 dX9_readFlourish_9 ?_
    refine ar_iconst (iI (5)) dX9_readFlourish_10 rfl ?_
    obtain ⟨a1, e1, H⟩ := wp_b H
    refine rc_V1i dX9_readFlourish_11 ml_X9_101 mc_X10_fail (c_X10_fail e1) rfl rfl rfl (ok_X rfl) rfl rfl rfl ?_
    obtain ⟨b1, H⟩ := wp_g H
    replace H := wp_s H
    exact ar_iret dX9_readFlourish_14 rfl (zb_n b1) H
noncomputable def f_X9_readSeed (k : Nat) (h : am_H) : Option (Int32 × am_H) :=
  if (h.1 (.inl 1) 10 0) = 0 then (am_lt (am_u h (.inl 1) 10 0 (iI (1))) (fun h1 => (f_X10_advance h1).bind (fun a1 => (f_X10_takeNumber (iI (0)) (iI (999)) a1).bind (fun a2 => if a2.1 = 0 then (some (((iI (0)), a2.2))) else (am_lt (am_u a2.2 (.inr k) 16 1 (a2.2.1 (.inl 1) 8 5)) (fun h2 => some (((iI (1)), h2)))))))) else ((f_X10_fail (iI (3)) h).bind (fun a1 => if zb a1.1 then (some ((a1.1, a1.2))) else none))
theorem c_X9_readSeed {k : Nat} (hk : k < 10) {h : am_H} {a : Int32 × am_H} (e : f_X9_readSeed k h = some a) : am_Mi yX9_readSeed cX9_readSeed 3 (some .boolean) 4 88 [am_r (.inl 1) 10, am_r (.inr k) 16, am_r (.inl 1) 8] h a.1 a.2 := by
  refine am_M.ofi (A := [some (am_r (.inl 1) 10), some (am_r (.inr k) 16), some (am_r (.inl 1) 8)]) (by decide +kernel) rfl (ble rfl) (fun Q hQ => ?_)
  have H : wp (f_X9_readSeed k h) (fun a => Q (some (am_i a.1)) a.2) := ⟨_, e, hQ⟩
  unfold f_X9_readSeed at H
  refine rl_a0 dX9_readSeed_0 ?_
  refine ar_getI dX9_readSeed_1 fg_X9_14 rfl rfl (ok_X rfl) ?_
  refine ar_if_eq 13 dX9_readSeed_4 (by decide) (fun c1 => ?_) (fun c1 => ?_)
  · replace H := wp_t c1 H
    refine rl_a0 dX9_readSeed_13 ?_
    refine ar_iconst (iI (1)) dX9_readSeed_14 rfl ?_
    refine ar_putI dX9_readSeed_15 fg_X9_14 rfl rfl (ok_X rfl) rfl rfl ?_
    replace H := wp_l H
    generalize am_u h (.inl 1) 10 0 (iI (1)) = h1 at H ⊢
    refine rl_a2 dX9_readSeed_18 ?_
    obtain ⟨a1, e1, H⟩ := wp_b H
    refine rc_V0v dX9_readSeed_19 ml_X9_111 mc_X10_advance (c_X10_advance e1) rfl rfl rfl (ok_X rfl) rfl rfl rfl ?_
    refine rl_a2 dX9_readSeed_22 ?_
    refine ar_iconst (iI (0)) dX9_readSeed_23 rfl ?_
    refine ar_sipush (iI (999)) dX9_readSeed_24 rfl ?_
    obtain ⟨a2, e2, H⟩ := wp_b H
    refine rc_V2i dX9_readSeed_27 ml_X9_114 mc_X10_takeNumber (c_X10_takeNumber e2) rfl rfl rfl (ok_X rfl) rfl rfl rfl ?_
    refine ar_if_ne 35 dX9_readSeed_30 (by decide) (fun c2 => ?_) (fun c2 => ?_)
    · replace H := wp_f c2 H
      refine rl_a1 dX9_readSeed_35 ?_
      refine rl_a2 dX9_readSeed_36 ?_
      refine ar_getI dX9_readSeed_37 fg_X9_118 rfl rfl (ok_X rfl) ?_
      refine ar_putI dX9_readSeed_40 fg_X9_170 rfl rfl (ok_P hk rfl) rfl rfl ?_
      replace H := wp_l H
      generalize am_u a2.2 (.inr k) 16 1 (a2.2.1 (.inl 1) 8 5) = h2 at H ⊢
      refine ar_iconst (iI (1)) dX9_readSeed_43 rfl ?_
      replace H := wp_s H
      exact ar_iret dX9_readSeed_44 rfl rfl H
    · replace H := wp_t c2 H
      refine ar_iconst (iI (0)) dX9_readSeed_33 rfl ?_
      replace H := wp_s H
      exact ar_iret dX9_readSeed_34 rfl rfl H
  · replace H := wp_f c1 H
    refine rl_a2 dX9_readSeed_7 ?_
    refine ar_iconst (iI (3)) dX9_readSeed_8 rfl ?_
    obtain ⟨a1, e1, H⟩ := wp_b H
    refine rc_V1i dX9_readSeed_9 ml_X9_101 mc_X10_fail (c_X10_fail e1) rfl rfl rfl (ok_X rfl) rfl rfl rfl ?_
    obtain ⟨b1, H⟩ := wp_g H
    replace H := wp_s H
    exact ar_iret dX9_readSeed_12 rfl (zb_n b1) H
noncomputable def f_X9_readSharp (k : Nat) (h : am_H) : Option (Int32 × am_H) :=
  if (h.1 (.inl 1) 10 1) = 0 then (am_lt (am_u h (.inl 1) 10 1 (iI (1))) (fun h1 => (f_X10_advance h1).bind (fun a1 => (f_X10_takeNumber (iI (1)) (iI (99)) a1).bind (fun a2 => if a2.1 = 0 then (some (((iI (0)), a2.2))) else (am_lt (am_u a2.2 (.inr k) 16 0 (a2.2.1 (.inl 1) 8 5)) (fun h2 => some (((iI (1)), h2)))))))) else ((f_X10_fail (iI (3)) h).bind (fun a1 => if zb a1.1 then (some ((a1.1, a1.2))) else none))
theorem c_X9_readSharp {k : Nat} (hk : k < 10) {h : am_H} {a : Int32 × am_H} (e : f_X9_readSharp k h = some a) : am_Mi yX9_readSharp cX9_readSharp 3 (some .boolean) 4 88 [am_r (.inl 1) 10, am_r (.inr k) 16, am_r (.inl 1) 8] h a.1 a.2 := by
  refine am_M.ofi (A := [some (am_r (.inl 1) 10), some (am_r (.inr k) 16), some (am_r (.inl 1) 8)]) (by decide +kernel) rfl (ble rfl) (fun Q hQ => ?_)
  have H : wp (f_X9_readSharp k h) (fun a => Q (some (am_i a.1)) a.2) := ⟨_, e, hQ⟩
  unfold f_X9_readSharp at H
  refine rl_a0 dX9_readSharp_0 ?_
  refine ar_getI dX9_readSharp_1 fg_X9_20 rfl rfl (ok_X rfl) ?_
  refine ar_if_eq 13 dX9_readSharp_4 (by decide) (fun c1 => ?_) (fun c1 => ?_)
  · replace H := wp_t c1 H
    refine rl_a0 dX9_readSharp_13 ?_
    refine ar_iconst (iI (1)) dX9_readSharp_14 rfl ?_
    refine ar_putI dX9_readSharp_15 fg_X9_20 rfl rfl (ok_X rfl) rfl rfl ?_
    replace H := wp_l H
    generalize am_u h (.inl 1) 10 1 (iI (1)) = h1 at H ⊢
    refine rl_a2 dX9_readSharp_18 ?_
    obtain ⟨a1, e1, H⟩ := wp_b H
    refine rc_V0v dX9_readSharp_19 ml_X9_111 mc_X10_advance (c_X10_advance e1) rfl rfl rfl (ok_X rfl) rfl rfl rfl ?_
    refine rl_a2 dX9_readSharp_22 ?_
    refine ar_iconst (iI (1)) dX9_readSharp_23 rfl ?_
    refine ar_bipush (iI (99)) dX9_readSharp_24 rfl ?_
    obtain ⟨a2, e2, H⟩ := wp_b H
    refine rc_V2i dX9_readSharp_26 ml_X9_114 mc_X10_takeNumber (c_X10_takeNumber e2) rfl rfl rfl (ok_X rfl) rfl rfl rfl ?_
    refine ar_if_ne 34 dX9_readSharp_29 (by decide) (fun c2 => ?_) (fun c2 => ?_)
    · replace H := wp_f c2 H
      refine rl_a1 dX9_readSharp_34 ?_
      refine rl_a2 dX9_readSharp_35 ?_
      refine ar_getI dX9_readSharp_36 fg_X9_118 rfl rfl (ok_X rfl) ?_
      refine ar_putI dX9_readSharp_39 fg_X9_175 rfl rfl (ok_P hk rfl) rfl rfl ?_
      replace H := wp_l H
      generalize am_u a2.2 (.inr k) 16 0 (a2.2.1 (.inl 1) 8 5) = h2 at H ⊢
      refine ar_iconst (iI (1)) dX9_readSharp_42 rfl ?_
      replace H := wp_s H
      exact ar_iret dX9_readSharp_43 rfl rfl H
    · replace H := wp_t c2 H
      refine ar_iconst (iI (0)) dX9_readSharp_32 rfl ?_
      replace H := wp_s H
      exact ar_iret dX9_readSharp_33 rfl rfl H
  · replace H := wp_f c1 H
    refine rl_a2 dX9_readSharp_7 ?_
    refine ar_iconst (iI (3)) dX9_readSharp_8 rfl ?_
    obtain ⟨a1, e1, H⟩ := wp_b H
    refine rc_V1i dX9_readSharp_9 ml_X9_101 mc_X10_fail (c_X10_fail e1) rfl rfl rfl (ok_X rfl) rfl rfl rfl ?_
    obtain ⟨b1, H⟩ := wp_g H
    replace H := wp_s H
    exact ar_iret dX9_readSharp_12 rfl (zb_n b1) H
noncomputable def f_X9_readMargin (k : Nat) (h : am_H) : Option (Int32 × am_H) :=
  if (h.1 (.inl 1) 10 2) = 0 then (am_lt (am_u h (.inl 1) 10 2 (iI (1))) (fun h1 => (f_X10_advance h1).bind (fun a1 => (f_X10_takeNumber (iI (0)) (iI (99)) a1).bind (fun a2 => if a2.1 = 0 then (some (((iI (0)), a2.2))) else (am_lt (am_u a2.2 (.inr k) 0 5 (a2.2.1 (.inl 1) 8 5)) (fun h2 => some (((iI (1)), h2)))))))) else ((f_X10_fail (iI (3)) h).bind (fun a1 => if zb a1.1 then (some ((a1.1, a1.2))) else none))
theorem c_X9_readMargin {k : Nat} (hk : k < 10) {h : am_H} {a : Int32 × am_H} (e : f_X9_readMargin k h = some a) : am_Mi yX9_readMargin cX9_readMargin 3 (some .boolean) 4 88 [am_r (.inl 1) 10, am_r (.inr k) 0, am_r (.inl 1) 8] h a.1 a.2 := by
  refine am_M.ofi (A := [some (am_r (.inl 1) 10), some (am_r (.inr k) 0), some (am_r (.inl 1) 8)]) (by decide +kernel) rfl (ble rfl) (fun Q hQ => ?_)
  have H : wp (f_X9_readMargin k h) (fun a => Q (some (am_i a.1)) a.2) := ⟨_, e, hQ⟩
  unfold f_X9_readMargin at H
  refine rl_a0 dX9_readMargin_0 ?_
  refine ar_getI dX9_readMargin_1 fg_X9_23 rfl rfl (ok_X rfl) ?_
  refine ar_if_eq 13 dX9_readMargin_4 (by decide) (fun c1 => ?_) (fun c1 => ?_)
  · replace H := wp_t c1 H
    refine rl_a0 dX9_readMargin_13 ?_
    refine ar_iconst (iI (1)) dX9_readMargin_14 rfl ?_
    refine ar_putI dX9_readMargin_15 fg_X9_23 rfl rfl (ok_X rfl) rfl rfl ?_
    replace H := wp_l H
    generalize am_u h (.inl 1) 10 2 (iI (1)) = h1 at H ⊢
    refine rl_a2 dX9_readMargin_18 ?_
    obtain ⟨a1, e1, H⟩ := wp_b H
    refine rc_V0v dX9_readMargin_19 ml_X9_111 mc_X10_advance (c_X10_advance e1) rfl rfl rfl (ok_X rfl) rfl rfl rfl ?_
    refine rl_a2 dX9_readMargin_22 ?_
    refine ar_iconst (iI (0)) dX9_readMargin_23 rfl ?_
    refine ar_bipush (iI (99)) dX9_readMargin_24 rfl ?_
    obtain ⟨a2, e2, H⟩ := wp_b H
    refine rc_V2i dX9_readMargin_26 ml_X9_114 mc_X10_takeNumber (c_X10_takeNumber e2) rfl rfl rfl (ok_X rfl) rfl rfl rfl ?_
    refine ar_if_ne 34 dX9_readMargin_29 (by decide) (fun c2 => ?_) (fun c2 => ?_)
    · replace H := wp_f c2 H
      refine rl_a1 dX9_readMargin_34 ?_
      refine rl_a2 dX9_readMargin_35 ?_
      refine ar_getI dX9_readMargin_36 fg_X9_118 rfl rfl (ok_X rfl) ?_
      refine ar_putI dX9_readMargin_39 fg_X9_177 rfl rfl (ok_P hk rfl) rfl rfl ?_
      replace H := wp_l H
      generalize am_u a2.2 (.inr k) 0 5 (a2.2.1 (.inl 1) 8 5) = h2 at H ⊢
      refine ar_iconst (iI (1)) dX9_readMargin_42 rfl ?_
      replace H := wp_s H
      exact ar_iret dX9_readMargin_43 rfl rfl H
    · replace H := wp_t c2 H
      refine ar_iconst (iI (0)) dX9_readMargin_32 rfl ?_
      replace H := wp_s H
      exact ar_iret dX9_readMargin_33 rfl rfl H
  · replace H := wp_f c1 H
    refine rl_a2 dX9_readMargin_7 ?_
    refine ar_iconst (iI (3)) dX9_readMargin_8 rfl ?_
    obtain ⟨a1, e1, H⟩ := wp_b H
    refine rc_V1i dX9_readMargin_9 ml_X9_101 mc_X10_fail (c_X10_fail e1) rfl rfl rfl (ok_X rfl) rfl rfl rfl ?_
    obtain ⟨b1, H⟩ := wp_g H
    replace H := wp_s H
    exact ar_iret dX9_readMargin_12 rfl (zb_n b1) H
noncomputable def f_X9_readStatement (k : Nat) (h : am_H) : Option (Int32 × am_H) :=
  (f_X10_isWord 0 h).bind (fun a1 => if a1 = 0 then ((f_X10_isWord 1 h).bind (fun a2 => if a2 = 0 then ((f_X10_isWord 2 h).bind (fun a3 => if a3 = 0 then ((f_X10_isWord 3 h).bind (fun a4 => if a4 = 0 then ((f_X10_isWord 4 h).bind (fun a5 => if a5 = 0 then ((f_X10_isWord 5 h).bind (fun a6 => if a6 = 0 then ((f_X10_isWord 6 h).bind (fun a7 => if a7 = 0 then ((f_X10_fail (iI (1)) h).bind (fun a8 => if zb a8.1 then (some ((a8.1, a8.2))) else none)) else ((f_X9_readMargin k h).bind (fun a8 => if zb a8.1 then (some ((a8.1, a8.2))) else none)))) else ((f_X9_readSharp k h).bind (fun a7 => if zb a7.1 then (some ((a7.1, a7.2))) else none)))) else ((f_X9_readSeed k h).bind (fun a6 => if zb a6.1 then (some ((a6.1, a6.2))) else none)))) else ((f_X9_readFlourish k h).bind (fun a5 => if zb a5.1 then (some ((a5.1, a5.2))) else none)))) else ((f_X9_readWide k h).bind (fun a4 => if zb a4.1 then (some ((a4.1, a4.2))) else none)))) else ((f_X9_readName k h).bind (fun a3 => if zb a3.1 then (some ((a3.1, a3.2))) else none)))) else ((f_X9_readArc k h).bind (fun a2 => if zb a2.1 then (some ((a2.1, a2.2))) else none)))
theorem c_X9_readStatement {k : Nat} (hk : k < 10) {h : am_H} {a : Int32 × am_H} (e : f_X9_readStatement k h = some a) : am_Mi yX9_readStatement cX9_readStatement 3 (some .boolean) 7 155 [am_r (.inl 1) 10, am_r (.inr k) 0, am_r (.inl 1) 8] h a.1 a.2 := by
  refine am_M.ofi (A := [some (am_r (.inl 1) 10), some (am_r (.inr k) 0), some (am_r (.inl 1) 8)]) (by decide +kernel) rfl (ble rfl) (fun Q hQ => ?_)
  have H : wp (f_X9_readStatement k h) (fun a => Q (some (am_i a.1)) a.2) := ⟨_, e, hQ⟩
  unfold f_X9_readStatement at H
  refine rl_a2 dX9_readStatement_0 ?_
  refine ar_ldcT dX9_readStatement_1 kt_X9_43 ?_
  obtain ⟨a1, e1, H⟩ := wp_b H
  refine rc_V1i dX9_readStatement_3 ml_X9_45 mc_X10_isWord (c_X10_isWord (by decide) e1) rfl rfl rfl (ok_X rfl) rfl rfl rfl ?_
  refine ar_if_eq 19 dX9_readStatement_6 (by decide) (fun c1 => ?_) (fun c1 => ?_)
  · replace H := wp_t c1 H
    refine rl_a2 dX9_readStatement_19 ?_
    refine ar_ldcT dX9_readStatement_20 kt_X9_57 ?_
    obtain ⟨a2, e2, H⟩ := wp_b H
    refine rc_V1i dX9_readStatement_22 ml_X9_45 mc_X10_isWord (c_X10_isWord (by decide) e2) rfl rfl rfl (ok_X rfl) rfl rfl rfl ?_
    refine ar_if_eq 38 dX9_readStatement_25 (by decide) (fun c2 => ?_) (fun c2 => ?_)
    · replace H := wp_t c2 H
      refine rl_a2 dX9_readStatement_38 ?_
      refine ar_ldcT dX9_readStatement_39 kt_X9_66 ?_
      obtain ⟨a3, e3, H⟩ := wp_b H
      refine rc_V1i dX9_readStatement_41 ml_X9_45 mc_X10_isWord (c_X10_isWord (by decide) e3) rfl rfl rfl (ok_X rfl) rfl rfl rfl ?_
      refine ar_if_eq 57 dX9_readStatement_44 (by decide) (fun c3 => ?_) (fun c3 => ?_)
      · replace H := wp_t c3 H
        refine rl_a2 dX9_readStatement_57 ?_
        refine ar_ldcT dX9_readStatement_58 kt_X9_71 ?_
        obtain ⟨a4, e4, H⟩ := wp_b H
        refine rc_V1i dX9_readStatement_60 ml_X9_45 mc_X10_isWord (c_X10_isWord (by decide) e4) rfl rfl rfl (ok_X rfl) rfl rfl rfl ?_
        refine ar_if_eq 76 dX9_readStatement_63 (by decide) (fun c4 => ?_) (fun c4 => ?_)
        · replace H := wp_t c4 H
          refine rl_a2 dX9_readStatement_76 ?_
          refine ar_ldcT dX9_readStatement_77 kt_X9_81 ?_
          obtain ⟨a5, e5, H⟩ := wp_b H
          refine rc_V1i dX9_readStatement_79 ml_X9_45 mc_X10_isWord (c_X10_isWord (by decide) e5) rfl rfl rfl (ok_X rfl) rfl rfl rfl ?_
          refine ar_if_eq 95 dX9_readStatement_82 (by decide) (fun c5 => ?_) (fun c5 => ?_)
          · replace H := wp_t c5 H
            refine rl_a2 dX9_readStatement_95 ?_
            refine ar_ldcT dX9_readStatement_96 kt_X9_91 ?_
            obtain ⟨a6, e6, H⟩ := wp_b H
            refine rc_V1i dX9_readStatement_98 ml_X9_45 mc_X10_isWord (c_X10_isWord (by decide) e6) rfl rfl rfl (ok_X rfl) rfl rfl rfl ?_
            refine ar_if_eq 114 dX9_readStatement_101 (by decide) (fun c6 => ?_) (fun c6 => ?_)
            · replace H := wp_t c6 H
              refine rl_a2 dX9_readStatement_114 ?_
              refine ar_ldcT dX9_readStatement_115 kt_X9_96 ?_
              obtain ⟨a7, e7, H⟩ := wp_b H
              refine rc_V1i dX9_readStatement_117 ml_X9_45 mc_X10_isWord (c_X10_isWord (by decide) e7) rfl rfl rfl (ok_X rfl) rfl rfl rfl ?_
              refine ar_if_eq 130 dX9_readStatement_120 (by decide) (fun c7 => ?_) (fun c7 => ?_)
              · replace H := wp_t c7 H
                refine rl_a2 dX9_readStatement_130 ?_
                refine ar_iconst (iI (1)) dX9_readStatement_131 rfl ?_
                obtain ⟨a8, e8, H⟩ := wp_b H
                refine rc_V1i dX9_readStatement_132 ml_X9_101 mc_X10_fail (c_X10_fail e8) rfl rfl rfl (ok_X rfl) rfl rfl rfl ?_
                obtain ⟨b1, H⟩ := wp_g H
                replace H := wp_s H
                exact ar_iret dX9_readStatement_135 rfl (zb_n b1) H
              · replace H := wp_f c7 H
                refine rl_a0 dX9_readStatement_123 ?_
                refine rl_a1 dX9_readStatement_124 ?_
                refine rl_a2 dX9_readStatement_125 ?_
                obtain ⟨a8, e8, H⟩ := wp_b H
                refine rc_V2i dX9_readStatement_126 ml_X9_98 mc_X9_readMargin (c_X9_readMargin hk e8) rfl rfl rfl (ok_X rfl) rfl rfl rfl ?_
                obtain ⟨b1, H⟩ := wp_g H
                replace H := wp_s H
                exact ar_iret dX9_readStatement_129 rfl (zb_n b1) H
            · replace H := wp_f c6 H
              refine rl_a0 dX9_readStatement_104 ?_
              refine rl_a1 dX9_readStatement_105 ?_
              refine rg_R (.inr k) 16 dX9_readStatement_106 fg_X9_83 rfl rfl rfl (ok_P hk rfl) ?_
              refine rl_a2 dX9_readStatement_109 ?_
              obtain ⟨a7, e7, H⟩ := wp_b H
              refine rc_V2i dX9_readStatement_110 ml_X9_93 mc_X9_readSharp (c_X9_readSharp hk e7) rfl rfl rfl (ok_X rfl) rfl rfl rfl ?_
              obtain ⟨b1, H⟩ := wp_g H
              replace H := wp_s H
              exact ar_iret dX9_readStatement_113 rfl (zb_n b1) H
          · replace H := wp_f c5 H
            refine rl_a0 dX9_readStatement_85 ?_
            refine rl_a1 dX9_readStatement_86 ?_
            refine rg_R (.inr k) 16 dX9_readStatement_87 fg_X9_83 rfl rfl rfl (ok_P hk rfl) ?_
            refine rl_a2 dX9_readStatement_90 ?_
            obtain ⟨a6, e6, H⟩ := wp_b H
            refine rc_V2i dX9_readStatement_91 ml_X9_87 mc_X9_readSeed (c_X9_readSeed hk e6) rfl rfl rfl (ok_X rfl) rfl rfl rfl ?_
            obtain ⟨b1, H⟩ := wp_g H
            replace H := wp_s H
            exact ar_iret dX9_readStatement_94 rfl (zb_n b1) H
        · replace H := wp_f c4 H
          refine rl_a0 dX9_readStatement_66 ?_
          refine rl_a1 dX9_readStatement_67 ?_
          refine rg_R (.inr k) 11 dX9_readStatement_68 fg_X9_73 rfl rfl rfl (ok_P hk rfl) ?_
          refine rl_a2 dX9_readStatement_71 ?_
          obtain ⟨a5, e5, H⟩ := wp_b H
          refine rc_V2i dX9_readStatement_72 ml_X9_77 mc_X9_readFlourish (c_X9_readFlourish hk e5) rfl rfl rfl (ok_X rfl) rfl rfl rfl ?_
          obtain ⟨b1, H⟩ := wp_g H
          replace H := wp_s H
          exact ar_iret dX9_readStatement_75 rfl (zb_n b1) H
      · replace H := wp_f c3 H
        refine rl_a0 dX9_readStatement_47 ?_
        refine rl_a1 dX9_readStatement_48 ?_
        refine rg_R (.inr k) 6 dX9_readStatement_49 fg_X9_59 rfl rfl rfl (ok_P hk rfl) ?_
        refine rl_a2 dX9_readStatement_52 ?_
        obtain ⟨a4, e4, H⟩ := wp_b H
        refine rc_V2i dX9_readStatement_53 ml_X9_68 mc_X9_readWide (c_X9_readWide hk e4) rfl rfl rfl (ok_X rfl) rfl rfl rfl ?_
        obtain ⟨b1, H⟩ := wp_g H
        replace H := wp_s H
        exact ar_iret dX9_readStatement_56 rfl (zb_n b1) H
    · replace H := wp_f c2 H
      refine rl_a0 dX9_readStatement_28 ?_
      refine rl_a1 dX9_readStatement_29 ?_
      refine rg_R (.inr k) 6 dX9_readStatement_30 fg_X9_59 rfl rfl rfl (ok_P hk rfl) ?_
      refine rl_a2 dX9_readStatement_33 ?_
      obtain ⟨a3, e3, H⟩ := wp_b H
      refine rc_V2i dX9_readStatement_34 ml_X9_62 mc_X9_readName (c_X9_readName hk e3) rfl rfl rfl (ok_X rfl) rfl rfl rfl ?_
      obtain ⟨b1, H⟩ := wp_g H
      replace H := wp_s H
      exact ar_iret dX9_readStatement_37 rfl (zb_n b1) H
  · replace H := wp_f c1 H
    refine rl_a0 dX9_readStatement_9 ?_
    refine rl_a1 dX9_readStatement_10 ?_
    refine rg_R (.inr k) 1 dX9_readStatement_11 fg_X9_49 rfl rfl rfl (ok_P hk rfl) ?_
    refine rl_a2 dX9_readStatement_14 ?_
    obtain ⟨a2, e2, H⟩ := wp_b H
    refine rc_V2i dX9_readStatement_15 ml_X9_53 mc_X9_readArc (c_X9_readArc hk e2) rfl rfl rfl (ok_X rfl) rfl rfl rfl ?_
    obtain ⟨b1, H⟩ := wp_g H
    replace H := wp_s H
    exact ar_iret dX9_readStatement_18 rfl (zb_n b1) H
noncomputable def s_X9_readInto (k : Nat) : am_S am_H → Option (am_S am_H ⊕ (Int32 × am_H)) := fun s => match s with
  | (25, [x3], [], [], h) => if (iI (500)) ≤ x3 then (some (.inr (((iI (1)), h)))) else ((f_X10_isAtEnd h).bind (fun a1 => if a1 = 0 then ((f_X9_readStatement k h).bind (fun a2 => if a2.1 = 0 then (some (.inr (((iI (0)), a2.2)))) else ((f_X10_takeSign (iI (59)) a2.2).bind (fun a3 => if a3.1 = 0 then (some (.inr (((iI (0)), a3.2)))) else (some (.inl (25, [(x3 + 1)], [], [], a3.2))))))) else (some (.inr (((iI (1)), h))))))
  | _ => none
noncomputable def f_X9_readInto_25 (k : Nat) (x3 : Int32) (h : am_H) : Option (Int32 × am_H) := lp (s_X9_readInto k) (25, [x3], [], [], h)
theorem e_X9_readInto_25 (k : Nat) (x3 : Int32) (h : am_H) : f_X9_readInto_25 k x3 h = (if (iI (500)) ≤ x3 then (some (((iI (1)), h))) else ((f_X10_isAtEnd h).bind (fun a1 => if a1 = 0 then ((f_X9_readStatement k h).bind (fun a2 => if a2.1 = 0 then (some (((iI (0)), a2.2))) else ((f_X10_takeSign (iI (59)) a2.2).bind (fun a3 => if a3.1 = 0 then (some (((iI (0)), a3.2))) else (f_X9_readInto_25 k (x3 + 1) a3.2))))) else (some (((iI (1)), h)))))) := by
  show lp _ _ = _
  rw [lp_eq, s_X9_readInto]
  simp only [lpk_i, lpk_b, lpk_l, lpk_n, lpk_j, lpk_r] <;> rfl
noncomputable def f_X9_readInto (k : Nat) (h : am_H) : Option (Int32 × am_H) :=
  (f_X5_clear k h).bind (fun a1 => am_lt (am_u a1 (.inl 1) 10 0 (iI (0))) (fun h1 => am_lt (am_u h1 (.inl 1) 10 1 (iI (0))) (fun h2 => am_lt (am_u h2 (.inl 1) 10 2 (iI (0))) (fun h3 => (f_X10_begin h3).bind (fun a2 => f_X9_readInto_25 k (iI (0)) a2)))))
theorem c_X9_readInto_L {k : Nat} (hk : k < 10) {Q : Option am_v → am_H → Prop} : ∀ s, wp (lp (s_X9_readInto k) s) (fun a => Q (some (am_i a.1)) a.2) → ((∀ x3 h, s = (25, [x3], [], [], h) → am_V RX9 cX9_readInto 4 (some .boolean) 8 177 0 0 none (am_Tm cX9_readInto (some .boolean) Q) 0 0 25 [some (am_r (.inl 1) 10), some (am_r (.inr k) 0), some (am_r (.inl 1) 8), some (am_i x3)] [] h)) := by
  refine lp_ind _ _ (fun s H => fun x3 h e => ?_)
  · subst e
    rw [s_X9_readInto] at H
    refine rl_i3 dX9_readInto_25 ?_
    refine ar_sipush (iI (500)) dX9_readInto_26 rfl ?_
    refine ar_ic_ge 65 dX9_readInto_29 (by decide) (fun c1 => ?_) (fun c1 => ?_)
    · replace H := wp_t c1 H
      refine ar_iconst (iI (1)) dX9_readInto_65 rfl ?_
      replace H := lp_re H
      exact ar_iret dX9_readInto_66 rfl rfl H
    · replace H := wp_f c1 H
      refine rl_a2 dX9_readInto_32 ?_
      obtain ⟨a1, e1, H⟩ := wp_b H
      refine rc_V0i dX9_readInto_33 ml_X9_31 mc_X10_isAtEnd (c_X10_isAtEnd e1) rfl rfl rfl (ok_X rfl) rfl rfl rfl ?_
      refine ar_if_ne 65 dX9_readInto_36 (by decide) (fun c2 => ?_) (fun c2 => ?_)
      · replace H := wp_f c2 H
        refine ar_iconst (iI (1)) dX9_readInto_65 rfl ?_
        replace H := lp_re H
        exact ar_iret dX9_readInto_66 rfl rfl H
      · replace H := wp_t c2 H
        refine rl_a0 dX9_readInto_39 ?_
        refine rl_a1 dX9_readInto_40 ?_
        refine rl_a2 dX9_readInto_41 ?_
        obtain ⟨a2, e2, H⟩ := wp_b H
        refine rc_V2i dX9_readInto_42 ml_X9_35 mc_X9_readStatement (c_X9_readStatement hk e2) rfl rfl rfl (ok_X rfl) rfl rfl rfl ?_
        refine ar_if_eq 57 dX9_readInto_45 (by decide) (fun c3 => ?_) (fun c3 => ?_)
        · replace H := wp_t c3 H
          refine ar_iconst (iI (0)) dX9_readInto_57 rfl ?_
          replace H := lp_re H
          exact ar_iret dX9_readInto_58 rfl rfl H
        · replace H := wp_f c3 H
          refine rl_a2 dX9_readInto_48 ?_
          refine ar_bipush (iI (59)) dX9_readInto_49 rfl ?_
          obtain ⟨a3, e3, H⟩ := wp_b H
          refine rc_V1i dX9_readInto_51 ml_X9_39 mc_X10_takeSign (c_X10_takeSign e3) rfl rfl rfl (ok_X rfl) rfl rfl rfl ?_
          refine ar_if_ne 59 dX9_readInto_54 (by decide) (fun c4 => ?_) (fun c4 => ?_)
          · replace H := wp_f c4 H
            refine rn_1_3 dX9_readInto_59 rfl trivial ?_
            refine ar_goto 25 dX9_readInto_62 (by decide) ?_
            exact am_V.wk (am_s (am_s (am_s (am_s am_0)))) ((lp_in H) _ _ rfl)
          · replace H := wp_t c4 H
            refine ar_iconst (iI (0)) dX9_readInto_57 rfl ?_
            replace H := lp_re H
            exact ar_iret dX9_readInto_58 rfl rfl H
theorem c_X9_readInto {k : Nat} (hk : k < 10) {h : am_H} {a : Int32 × am_H} (e : f_X9_readInto k h = some a) : am_Mi yX9_readInto cX9_readInto 4 (some .boolean) 8 177 [am_r (.inl 1) 10, am_r (.inr k) 0, am_r (.inl 1) 8] h a.1 a.2 := by
  refine am_M.ofi (A := [some (am_r (.inl 1) 10), some (am_r (.inr k) 0), some (am_r (.inl 1) 8), none]) (by decide +kernel) rfl (ble rfl) (fun Q hQ => ?_)
  have H : wp (f_X9_readInto k h) (fun a => Q (some (am_i a.1)) a.2) := ⟨_, e, hQ⟩
  unfold f_X9_readInto at H
  refine rl_a1 dX9_readInto_0 ?_
  obtain ⟨a1, e1, H⟩ := wp_b H
  refine rc_V0v dX9_readInto_1 ml_X9_9 mc_X5_clear (c_X5_clear hk e1) rfl rfl rfl (ok_P hk rfl) rfl rfl rfl ?_
  refine rl_a0 dX9_readInto_4 ?_
  refine ar_iconst (iI (0)) dX9_readInto_5 rfl ?_
  refine ar_putI dX9_readInto_6 fg_X9_14 rfl rfl (ok_X rfl) rfl rfl ?_
  replace H := wp_l H
  generalize am_u a1 (.inl 1) 10 0 (iI (0)) = h1 at H ⊢
  refine rl_a0 dX9_readInto_9 ?_
  refine ar_iconst (iI (0)) dX9_readInto_10 rfl ?_
  refine ar_putI dX9_readInto_11 fg_X9_20 rfl rfl (ok_X rfl) rfl rfl ?_
  replace H := wp_l H
  generalize am_u h1 (.inl 1) 10 1 (iI (0)) = h2 at H ⊢
  refine rl_a0 dX9_readInto_14 ?_
  refine ar_iconst (iI (0)) dX9_readInto_15 rfl ?_
  refine ar_putI dX9_readInto_16 fg_X9_23 rfl rfl (ok_X rfl) rfl rfl ?_
  replace H := wp_l H
  generalize am_u h2 (.inl 1) 10 2 (iI (0)) = h3 at H ⊢
  refine rl_a2 dX9_readInto_19 ?_
  obtain ⟨a2, e2, H⟩ := wp_b H
  refine rc_V0v dX9_readInto_20 ml_X9_26 mc_X10_begin (c_X10_begin e2) rfl rfl rfl (ok_X rfl) rfl rfl rfl ?_
  refine ar_iconst (iI (0)) dX9_readInto_23 rfl ?_
  refine rs_i3 dX9_readInto_24 rfl trivial ?_
  exact am_V.wk (am_s (am_s (am_s (am_s am_0)))) ((c_X9_readInto_L hk _ H) _ _ rfl)
