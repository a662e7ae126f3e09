noncomputable def f_X12_thrown  (h : am_H) : Option Int32 :=
  some ((h.1 (.inl 0) 0 0))
theorem c_X12_thrown  {h : am_H} {a : Int32} (e : f_X12_thrown h = some a) : am_Mi yX12_thrown cX12_thrown 1 (some .int) 0 0 [am_r (.inl 0) 0] h a h := by
  refine am_M.ofi (A := [some (am_r (.inl 0) 0)]) (by decide +kernel) rfl (ble rfl) (fun Q hQ => ?_)
  have H : wp (f_X12_thrown h) (fun a => Q (some (am_i a)) h) := ⟨a, e, hQ⟩
  unfold f_X12_thrown at H
  refine rl_a0 dX12_thrown_0 ?_
  refine ar_getI dX12_thrown_1 fg_X12_72 rfl rfl (ok_M rfl) ?_
  replace H := wp_s H
  exact ar_iret dX12_thrown_4 rfl rfl H
noncomputable def f_X12_isIn (x0 : Int64) (x2 : Int64) (x4 : Int64) : Option Int32 :=
  if (lg_cmp x0 x2) < 0 then (some ((iI (0)))) else (if 0 < (lg_cmp x0 x4) then (some ((iI (0)))) else (some ((iI (1)))))
theorem c_X12_isIn {x0 : Int64} {x2 : Int64} {x4 : Int64} {h : am_H} {a : Int32} (e : f_X12_isIn x0 x2 x4 = some a) : am_Mi yX12_isIn cX12_isIn 6 (some .boolean) 0 0 [am_l x0, am_l x2, am_l x4] h a h := by
  refine am_M.ofi (A := [some (am_l x0), none, some (am_l x2), none, some (am_l x4), none]) (by decide +kernel) rfl (ble rfl) (fun Q hQ => ?_)
  have H : wp (f_X12_isIn x0 x2 x4) (fun a => Q (some (am_i a)) h) := ⟨a, e, hQ⟩
  unfold f_X12_isIn at H
  refine rl_l0 dX12_isIn_0 ?_
  refine rl_l2 dX12_isIn_1 ?_
  refine ar_lcmp dX12_isIn_2 ?_
  refine ar_if_lt 17 dX12_isIn_3 (by decide) (fun c1 => ?_) (fun c1 => ?_)
  · replace H := wp_t c1 H
    refine ar_iconst (iI (0)) dX12_isIn_17 rfl ?_
    replace H := wp_s H
    exact ar_iret dX12_isIn_18 rfl rfl H
  · replace H := wp_f c1 H
    refine rl_l0 dX12_isIn_6 ?_
    refine rl_l4 dX12_isIn_7 ?_
    refine ar_lcmp dX12_isIn_9 ?_
    refine ar_if_gt 17 dX12_isIn_10 (by decide) (fun c2 => ?_) (fun c2 => ?_)
    · replace H := wp_t c2 H
      refine ar_iconst (iI (0)) dX12_isIn_17 rfl ?_
      replace H := wp_s H
      exact ar_iret dX12_isIn_18 rfl rfl H
    · replace H := wp_f c2 H
      refine ar_iconst (iI (1)) dX12_isIn_13 rfl ?_
      refine ar_goto 18 dX12_isIn_14 (by decide) ?_
      replace H := wp_s H
      exact ar_iret dX12_isIn_18 rfl rfl H
noncomputable def f_X12_truth (x0 : Int32) : Option Int32 :=
  if x0 = 0 then (some ((iI (0)))) else (some ((iI (1))))
theorem c_X12_truth {x0 : Int32} {h : am_H} {a : Int32} (e : f_X12_truth x0 = some a) : am_Mi yX12_truth cX12_truth 1 (some .int) 0 0 [am_i x0] h a h := by
  refine am_M.ofi (A := [some (am_i x0)]) (by decide +kernel) rfl (ble rfl) (fun Q hQ => ?_)
  have H : wp (f_X12_truth x0) (fun a => Q (some (am_i a)) h) := ⟨a, e, hQ⟩
  unfold f_X12_truth at H
  refine rl_i0 dX12_truth_0 ?_
  refine ar_if_eq 8 dX12_truth_1 (by decide) (fun c1 => ?_) (fun c1 => ?_)
  · replace H := wp_t c1 H
    refine ar_iconst (iI (0)) dX12_truth_8 rfl ?_
    replace H := wp_s H
    exact ar_iret dX12_truth_9 rfl rfl H
  · replace H := wp_f c1 H
    refine ar_iconst (iI (1)) dX12_truth_4 rfl ?_
    refine ar_goto 9 dX12_truth_5 (by decide) ?_
    replace H := wp_s H
    exact ar_iret dX12_truth_9 rfl rfl H
noncomputable def f_X12_has (x0 : Int32) (x1 : Int32) : Option Int32 :=
  if ((x0 >>> (x1 &&& 31)) &&& (iI (1))) = (iI (1)) then (some ((iI (1)))) else (some ((iI (0))))
theorem c_X12_has {x0 : Int32} {x1 : Int32} {h : am_H} {a : Int32} (e : f_X12_has x0 x1 = some a) : am_Mi yX12_has cX12_has 2 (some .boolean) 0 0 [am_i x0, am_i x1] h a h := by
  refine am_M.ofi (A := [some (am_i x0), some (am_i x1)]) (by decide +kernel) rfl (ble rfl) (fun Q hQ => ?_)
  have H : wp (f_X12_has x0 x1) (fun a => Q (some (am_i a)) h) := ⟨a, e, hQ⟩
  unfold f_X12_has at H
  refine rl_i0 dX12_has_0 ?_
  refine rl_i1 dX12_has_1 ?_
  refine ar_ishr dX12_has_2 ?_
  refine ar_iconst (iI (1)) dX12_has_3 rfl ?_
  refine ar_iand dX12_has_4 ?_
  refine ar_iconst (iI (1)) dX12_has_5 rfl ?_
  refine ar_ic_ne 13 dX12_has_6 (by decide) (fun c1 => ?_) (fun c1 => ?_)
  · replace H := wp_f c1 H
    refine ar_iconst (iI (0)) dX12_has_13 rfl ?_
    replace H := wp_s H
    exact ar_iret dX12_has_14 rfl rfl H
  · replace H := wp_t c1 H
    refine ar_iconst (iI (1)) dX12_has_9 rfl ?_
    refine ar_goto 14 dX12_has_10 (by decide) ?_
    replace H := wp_s H
    exact ar_iret dX12_has_14 rfl rfl H
noncomputable def f_X12_goes (x1 : Int32) (h : am_H) : Option (Int32 × am_H) :=
  if x1 = 0 then ((f_X12_truth (iI (1))).bind (fun a1 => am_lt (am_u h (.inl 0) 0 0 a1) (fun h1 => if zb x1 then (some ((x1, h1))) else none))) else ((f_X12_truth (iI (0))).bind (fun a1 => am_lt (am_u h (.inl 0) 0 0 a1) (fun h1 => if zb x1 then (some ((x1, h1))) else none)))
theorem c_X12_goes {x1 : Int32} {h : am_H} {a : Int32 × am_H} (e : f_X12_goes x1 h = some a) : am_Mi yX12_goes cX12_goes 2 (some .boolean) 1 20 [am_r (.inl 0) 0, am_i x1] h a.1 a.2 := by
  refine am_M.ofi (A := [some (am_r (.inl 0) 0), some (am_i x1)]) (by decide +kernel) rfl (ble rfl) (fun Q hQ => ?_)
  have H : wp (f_X12_goes x1 h) (fun a => Q (some (am_i a.1)) a.2) := ⟨a, e, hQ⟩
  unfold f_X12_goes at H
  refine rl_a0 dX12_goes_0 ?_
  refine rl_i1 dX12_goes_1 ?_
  refine ar_if_ne 9 dX12_goes_2 (by decide) (fun c1 => ?_) (fun c1 => ?_)
  · replace H := wp_f c1 H
    refine ar_iconst (iI (0)) dX12_goes_9 rfl ?_
    obtain ⟨a1, e1, H⟩ := wp_b H
    refine rc_S1i dX12_goes_10 ml_X12_75 mc_X12_truth (c_X12_truth e1) rfl rfl rfl ?_
    refine ar_putI dX12_goes_13 fg_X12_72 rfl rfl (ok_M rfl) rfl rfl ?_
    replace H := wp_l H
    generalize am_u h (.inl 0) 0 0 a1 = h1 at H ⊢
    refine rl_i1 dX12_goes_16 ?_
    obtain ⟨b1, H⟩ := wp_g H
    replace H := wp_s H
    exact ar_iret dX12_goes_17 rfl (zb_n b1) H
  · replace H := wp_t c1 H
    refine ar_iconst (iI (1)) dX12_goes_5 rfl ?_
    refine ar_goto 10 dX12_goes_6 (by decide) ?_
    obtain ⟨a1, e1, H⟩ := wp_b H
    refine rc_S1i dX12_goes_10 ml_X12_75 mc_X12_truth (c_X12_truth e1) rfl rfl rfl ?_
    refine ar_putI dX12_goes_13 fg_X12_72 rfl rfl (ok_M rfl) rfl rfl ?_
    replace H := wp_l H
    generalize am_u h (.inl 0) 0 0 a1 = h1 at H ⊢
    refine rl_i1 dX12_goes_16 ?_
    obtain ⟨b1, H⟩ := wp_g H
    replace H := wp_s H
    exact ar_iret dX12_goes_17 rfl (zb_n b1) H
noncomputable def f_X12_goesBoth_18  (y1 : Int32) (h : am_H) : Option (Int32 × am_H) :=
  am_lt (am_u h (.inl 0) 0 0 y1) (fun h1 => if (h1.1 (.inl 0) 0 0) = 0 then (some (((iI (1)), h1))) else (some (((iI (0)), h1))))
noncomputable def f_X12_goesBoth (x1 : Int32) (x2 : Int32) (h : am_H) : Option (Int32 × am_H) :=
  if x1 = 0 then (f_X12_goesBoth_18 (iI (1)) h) else (if x2 = 0 then (f_X12_goesBoth_18 (iI (2)) h) else (f_X12_goesBoth_18 (iI (0)) h))
theorem c_X12_goesBoth_18  {y1 : Int32} {h : am_H} {Q : Option am_v → am_H → Prop} (H : wp (f_X12_goesBoth_18 y1 h) (fun a => Q (some (am_i a.1)) a.2)) : am_V RX12 cX12_goesBoth 3 (some .boolean) 0 0 0 0 none (am_Tm cX12_goesBoth (some .boolean) Q) 0 0 18 [some (am_r (.inl 0) 0), none, none] [am_i y1, am_r (.inl 0) 0] h := by
  unfold f_X12_goesBoth_18 at H
  refine ar_putI dX12_goesBoth_18 fg_X12_72 rfl rfl (ok_M rfl) rfl rfl ?_
  replace H := wp_l H
  generalize am_u h (.inl 0) 0 0 y1 = h1 at H ⊢
  refine rl_a0 dX12_goesBoth_21 ?_
  refine ar_getI dX12_goesBoth_22 fg_X12_72 rfl rfl (ok_M rfl) ?_
  refine ar_if_ne 32 dX12_goesBoth_25 (by decide) (fun c1 => ?_) (fun c1 => ?_)
  · replace H := wp_f c1 H
    refine ar_iconst (iI (0)) dX12_goesBoth_32 rfl ?_
    replace H := wp_s H
    exact ar_iret dX12_goesBoth_33 rfl rfl H
  · replace H := wp_t c1 H
    refine ar_iconst (iI (1)) dX12_goesBoth_28 rfl ?_
    refine ar_goto 33 dX12_goesBoth_29 (by decide) ?_
    replace H := wp_s H
    exact ar_iret dX12_goesBoth_33 rfl rfl H
theorem c_X12_goesBoth {x1 : Int32} {x2 : Int32} {h : am_H} {a : Int32 × am_H} (e : f_X12_goesBoth x1 x2 h = some a) : am_Mi yX12_goesBoth cX12_goesBoth 3 (some .boolean) 0 0 [am_r (.inl 0) 0, am_i x1, am_i x2] h a.1 a.2 := by
  refine am_M.ofi (A := [some (am_r (.inl 0) 0), some (am_i x1), some (am_i x2)]) (by decide +kernel) rfl (ble rfl) (fun Q hQ => ?_)
  have H : wp (f_X12_goesBoth x1 x2 h) (fun a => Q (some (am_i a.1)) a.2) := ⟨a, e, hQ⟩
  unfold f_X12_goesBoth at H
  refine rl_a0 dX12_goesBoth_0 ?_
  refine rl_i1 dX12_goesBoth_1 ?_
  refine ar_if_ne 9 dX12_goesBoth_2 (by decide) (fun c1 => ?_) (fun c1 => ?_)
  · replace H := wp_f c1 H
    refine rl_i2 dX12_goesBoth_9 ?_
    refine ar_if_ne 17 dX12_goesBoth_10 (by decide) (fun c2 => ?_) (fun c2 => ?_)
    · replace H := wp_f c2 H
      refine ar_iconst (iI (0)) dX12_goesBoth_17 rfl ?_
      exact am_V.wk (am_s (am_n (am_n am_0))) (c_X12_goesBoth_18  H)
    · replace H := wp_t c2 H
      refine ar_iconst (iI (2)) dX12_goesBoth_13 rfl ?_
      refine ar_goto 18 dX12_goesBoth_14 (by decide) ?_
      exact am_V.wk (am_s (am_n (am_n am_0))) (c_X12_goesBoth_18  H)
  · replace H := wp_t c1 H
    refine ar_iconst (iI (1)) dX12_goesBoth_5 rfl ?_
    refine ar_goto 18 dX12_goesBoth_6 (by decide) ?_
    exact am_V.wk (am_s (am_n (am_n am_0))) (c_X12_goesBoth_18  H)
noncomputable def s_X12_four  : am_S am_H → Option (am_S am_H ⊕ am_H) := fun s => match s with
  | (3, [x1, x2], [], [], h) => if x2 < 0 then (some (.inr (h))) else (if ib (h.1 (.inl 0) 0 2) 500 then (am_lt (am_u h (.inl 0) 1 (((h.1 (.inl 0) 0 2)).toNatClampNeg) ((x1 >>> (x2 &&& 31)) &&& (iI (255)))) (fun h1 => am_lt (am_u h1 (.inl 0) 0 2 ((h1.1 (.inl 0) 0 2) + (iI (1)))) (fun h2 => some (.inl (3, [x1, (x2 + iI (-8))], [], [], h2))))) else none)
  | _ => none
noncomputable def f_X12_four_3  (x1 : Int32) (x2 : Int32) (h : am_H) : Option am_H := lp (s_X12_four) (3, [x1, x2], [], [], h)
theorem e_X12_four_3  (x1 : Int32) (x2 : Int32) (h : am_H) : f_X12_four_3 x1 x2 h = (if x2 < 0 then (some (h)) else (if ib (h.1 (.inl 0) 0 2) 500 then (am_lt (am_u h (.inl 0) 1 (((h.1 (.inl 0) 0 2)).toNatClampNeg) ((x1 >>> (x2 &&& 31)) &&& (iI (255)))) (fun h1 => am_lt (am_u h1 (.inl 0) 0 2 ((h1.1 (.inl 0) 0 2) + (iI (1)))) (fun h2 => f_X12_four_3 x1 (x2 + iI (-8)) h2))) else none)) := by
  show lp _ _ = _
  rw [lp_eq, s_X12_four]
  simp only [lpk_i, lpk_b, lpk_l, lpk_n, lpk_j, lpk_r] <;> rfl
noncomputable def f_X12_four (x1 : Int32) (h : am_H) : Option am_H :=
  f_X12_four_3 x1 (iI (24)) h
theorem c_X12_four_L  {Q : Option am_v → am_H → Prop} : ∀ s, wp (lp (s_X12_four) s) (fun a => Q none a) → ((∀ x1 x2 h, s = (3, [x1, x2], [], [], h) → am_V RX12 cX12_four 3 (none) 0 0 0 0 none (am_Tm cX12_four (none) Q) 0 0 3 [some (am_r (.inl 0) 0), some (am_i x1), some (am_i x2)] [] h)) := by
  refine lp_ind _ _ (fun s H => fun x1 x2 h e => ?_)
  · subst e
    rw [s_X12_four] at H
    refine rl_i2 dX12_four_3 ?_
    refine ar_if_lt 39 dX12_four_4 (by decide) (fun c1 => ?_) (fun c1 => ?_)
    · replace H := wp_t c1 H
      replace H := lp_re H
      exact ar_vret dX12_four_39 rfl H
    · replace H := wp_f c1 H
      refine rl_a0 dX12_four_7 ?_
      refine rg_R (.inl 0) 1 dX12_four_8 fg_X12_7 rfl rfl rfl (ok_M rfl) ?_
      refine rl_a0 dX12_four_11 ?_
      refine ar_getI dX12_four_12 fg_X12_79 rfl rfl (ok_M rfl) ?_
      refine rl_i1 dX12_four_15 ?_
      refine rl_i2 dX12_four_16 ?_
      refine ar_ishr dX12_four_17 ?_
      refine ar_sipush (iI (255)) dX12_four_18 rfl ?_
      refine ar_iand dX12_four_21 ?_
      obtain ⟨b1, H⟩ := wp_g H
      refine ar_iast dX12_four_22 rfl (ok_M rfl) (ib_in b1) ?_
      replace H := wp_l H
      generalize am_u h (.inl 0) 1 (((h.1 (.inl 0) 0 2)).toNatClampNeg) ((x1 >>> (x2 &&& 31)) &&& (iI (255))) = h1 at H ⊢
      refine rl_a0 dX12_four_23 ?_
      refine ar_dup dX12_four_24 trivial ?_
      refine ar_getI dX12_four_25 fg_X12_79 rfl rfl (ok_M rfl) ?_
      refine ar_iconst (iI (1)) dX12_four_28 rfl ?_
      refine ar_iadd dX12_four_29 ?_
      refine ar_putI dX12_four_30 fg_X12_79 rfl rfl (ok_M rfl) rfl rfl ?_
      replace H := wp_l H
      generalize am_u h1 (.inl 0) 0 2 ((h1.1 (.inl 0) 0 2) + (iI (1))) = h2 at H ⊢
      refine rn_m_2 (v := x2 + iI (-8)) dX12_four_33 rfl trivial rfl ?_
      refine ar_goto 3 dX12_four_36 (by decide) ?_
      exact am_V.wk (am_s (am_s (am_s am_0))) ((lp_in H) _ _ _ rfl)
theorem c_X12_four {x1 : Int32} {h : am_H} {a : am_H} (e : f_X12_four x1 h = some a) : am_Mv yX12_four cX12_four 3 (none) 0 0 [am_r (.inl 0) 0, am_i x1] h a := by
  refine am_M.ofv (A := [some (am_r (.inl 0) 0), some (am_i x1), none]) (by decide +kernel) rfl (ble rfl) (fun Q hQ => ?_)
  have H : wp (f_X12_four x1 h) (fun a => Q none a) := ⟨a, e, hQ⟩
  unfold f_X12_four at H
  refine ar_bipush (iI (24)) dX12_four_0 rfl ?_
  refine rs_i2 dX12_four_2 rfl trivial ?_
  exact am_V.wk (am_s (am_s (am_s am_0))) ((c_X12_four_L  _ H) _ _ _ rfl)
noncomputable def f_X12_feed_19  (x1 : Int32) (x2 : Int32) (x3 : Int32) (x4 : Int32) (x5 : Int32) (y1 : Int32) (h : am_H) : Option (Int32 × am_H) :=
  (f_X12_goes y1 h).bind (fun a1 => if a1.1 = 0 then (some (((iI (0)), a1.2))) else ((f_X12_four x1 a1.2).bind (fun a2 => (f_X12_four x2 a2).bind (fun a3 => (f_X12_four x3 a3).bind (fun a4 => (f_X12_four x4 a4).bind (fun a5 => (f_X12_four x5 a5).bind (fun a6 => some (((a6.1 (.inl 0) 0 2), a6)))))))))
noncomputable def f_X12_feed (x1 : Int32) (x2 : Int32) (x3 : Int32) (x4 : Int32) (x5 : Int32) (h : am_H) : Option (Int32 × am_H) :=
  if (iI (500)) < ((h.1 (.inl 0) 0 2) + (iI (20))) then (f_X12_feed_19 x1 x2 x3 x4 x5 (iI (0)) h) else (f_X12_feed_19 x1 x2 x3 x4 x5 (iI (1)) h)
theorem c_X12_feed_19  {x1 : Int32} {x2 : Int32} {x3 : Int32} {x4 : Int32} {x5 : Int32} {y1 : Int32} {h : am_H} {Q : Option am_v → am_H → Prop} (H : wp (f_X12_feed_19 x1 x2 x3 x4 x5 y1 h) (fun a => Q (some (am_i a.1)) a.2)) : am_V RX12 cX12_feed 6 (some .int) 2 41 0 0 none (am_Tm cX12_feed (some .int) Q) 0 0 19 [some (am_r (.inl 0) 0), some (am_i x1), some (am_i x2), some (am_i x3), some (am_i x4), some (am_i x5)] [am_i y1, am_r (.inl 0) 0] h := by
  unfold f_X12_feed_19 at H
  obtain ⟨a1, e1, H⟩ := wp_b H
  refine rc_V1i dX12_feed_19 ml_X12_82 mc_X12_goes (c_X12_goes e1) rfl rfl rfl (ok_M rfl) rfl rfl rfl ?_
  refine ar_if_ne 27 dX12_feed_22 (by decide) (fun c1 => ?_) (fun c1 => ?_)
  · replace H := wp_f c1 H
    refine rl_a0 dX12_feed_27 ?_
    refine rl_i1 dX12_feed_28 ?_
    obtain ⟨a2, e2, H⟩ := wp_b H
    refine rc_V1v dX12_feed_29 ml_X12_86 mc_X12_four (c_X12_four e2) rfl rfl rfl (ok_M rfl) rfl rfl rfl ?_
    refine rl_a0 dX12_feed_32 ?_
    refine rl_i2 dX12_feed_33 ?_
    obtain ⟨a3, e3, H⟩ := wp_b H
    refine rc_V1v dX12_feed_34 ml_X12_86 mc_X12_four (c_X12_four e3) rfl rfl rfl (ok_M rfl) rfl rfl rfl ?_
    refine rl_a0 dX12_feed_37 ?_
    refine rl_i3 dX12_feed_38 ?_
    obtain ⟨a4, e4, H⟩ := wp_b H
    refine rc_V1v dX12_feed_39 ml_X12_86 mc_X12_four (c_X12_four e4) rfl rfl rfl (ok_M rfl) rfl rfl rfl ?_
    refine rl_a0 dX12_feed_42 ?_
    refine rl_i4 dX12_feed_43 ?_
    obtain ⟨a5, e5, H⟩ := wp_b H
    refine rc_V1v dX12_feed_45 ml_X12_86 mc_X12_four (c_X12_four e5) rfl rfl rfl (ok_M rfl) rfl rfl rfl ?_
    refine rl_a0 dX12_feed_48 ?_
    refine rl_i5 dX12_feed_49 ?_
    obtain ⟨a6, e6, H⟩ := wp_b H
    refine rc_V1v dX12_feed_51 ml_X12_86 mc_X12_four (c_X12_four e6) rfl rfl rfl (ok_M rfl) rfl rfl rfl ?_
    refine rl_a0 dX12_feed_54 ?_
    refine ar_getI dX12_feed_55 fg_X12_79 rfl rfl (ok_M rfl) ?_
    replace H := wp_s H
    exact ar_iret dX12_feed_58 rfl rfl H
  · replace H := wp_t c1 H
    refine ar_iconst (iI (0)) dX12_feed_25 rfl ?_
    replace H := wp_s H
    exact ar_iret dX12_feed_26 rfl rfl H
theorem c_X12_feed {x1 : Int32} {x2 : Int32} {x3 : Int32} {x4 : Int32} {x5 : Int32} {h : am_H} {a : Int32 × am_H} (e : f_X12_feed x1 x2 x3 x4 x5 h = some a) : am_Mi yX12_feed cX12_feed 6 (some .int) 2 41 [am_r (.inl 0) 0, am_i x1, am_i x2, am_i x3, am_i x4, am_i x5] h a.1 a.2 := by
  refine am_M.ofi (A := [some (am_r (.inl 0) 0), some (am_i x1), some (am_i x2), some (am_i x3), some (am_i x4), some (am_i x5)]) (by decide +kernel) rfl (ble rfl) (fun Q hQ => ?_)
  have H : wp (f_X12_feed x1 x2 x3 x4 x5 h) (fun a => Q (some (am_i a.1)) a.2) := ⟨a, e, hQ⟩
  unfold f_X12_feed at H
  refine rl_a0 dX12_feed_0 ?_
  refine rl_a0 dX12_feed_1 ?_
  refine ar_getI dX12_feed_2 fg_X12_79 rfl rfl (ok_M rfl) ?_
  refine ar_bipush (iI (20)) dX12_feed_5 rfl ?_
  refine ar_iadd dX12_feed_7 ?_
  refine ar_sipush (iI (500)) dX12_feed_8 rfl ?_
  refine ar_ic_gt 18 dX12_feed_11 (by decide) (fun c1 => ?_) (fun c1 => ?_)
  · replace H := wp_t c1 H
    refine ar_iconst (iI (0)) dX12_feed_18 rfl ?_
    exact am_V.wk (am_s (am_s (am_s (am_s (am_s (am_s am_0)))))) (c_X12_feed_19  H)
  · replace H := wp_f c1 H
    refine ar_iconst (iI (1)) dX12_feed_14 rfl ?_
    refine ar_goto 19 dX12_feed_15 (by decide) ?_
    exact am_V.wk (am_s (am_s (am_s (am_s (am_s (am_s am_0)))))) (c_X12_feed_19  H)
noncomputable def f_X12_truncate (x1 : Int32) (h : am_H) : Option (Int32 × am_H) :=
  (f_X12_isIn x1.toInt64 (0 : Int64) ((h.1 (.inl 0) 0 2).toInt64)).bind (fun a1 => (f_X12_goes a1 h).bind (fun a2 => if a2.1 = 0 then (some (((iI (0)), a2.2))) else (am_lt (am_u a2.2 (.inl 0) 0 2 x1) (fun h1 => some ((x1, h1))))))
theorem c_X12_truncate {x1 : Int32} {h : am_H} {a : Int32 × am_H} (e : f_X12_truncate x1 h = some a) : am_Mi yX12_truncate cX12_truncate 2 (some .int) 2 41 [am_r (.inl 0) 0, am_i x1] h a.1 a.2 := by
  refine am_M.ofi (A := [some (am_r (.inl 0) 0), some (am_i x1)]) (by decide +kernel) rfl (ble rfl) (fun Q hQ => ?_)
  have H : wp (f_X12_truncate x1 h) (fun a => Q (some (am_i a.1)) a.2) := ⟨a, e, hQ⟩
  unfold f_X12_truncate at H
  refine rl_a0 dX12_truncate_0 ?_
  refine rl_i1 dX12_truncate_1 ?_
  refine ar_i2l dX12_truncate_2 ?_
  refine ar_lconst (0 : Int64) dX12_truncate_3 rfl ?_
  refine rl_a0 dX12_truncate_4 ?_
  refine ar_getI dX12_truncate_5 fg_X12_79 rfl rfl (ok_M rfl) ?_
  refine ar_i2l dX12_truncate_8 ?_
  obtain ⟨a1, e1, H⟩ := wp_b H
  refine rc_S3i dX12_truncate_9 ml_X12_90 mc_X12_isIn (c_X12_isIn e1) rfl rfl rfl ?_
  obtain ⟨a2, e2, H⟩ := wp_b H
  refine rc_V1i dX12_truncate_12 ml_X12_82 mc_X12_goes (c_X12_goes e2) rfl rfl rfl (ok_M rfl) rfl rfl rfl ?_
  refine ar_if_ne 20 dX12_truncate_15 (by decide) (fun c1 => ?_) (fun c1 => ?_)
  · replace H := wp_f c1 H
    refine rl_a0 dX12_truncate_20 ?_
    refine rl_i1 dX12_truncate_21 ?_
    refine ar_putI dX12_truncate_22 fg_X12_79 rfl rfl (ok_M rfl) rfl rfl ?_
    replace H := wp_l H
    generalize am_u a2.2 (.inl 0) 0 2 x1 = h1 at H ⊢
    refine rl_i1 dX12_truncate_25 ?_
    replace H := wp_s H
    exact ar_iret dX12_truncate_26 rfl rfl H
  · replace H := wp_t c1 H
    refine ar_iconst (iI (0)) dX12_truncate_18 rfl ?_
    replace H := wp_s H
    exact ar_iret dX12_truncate_19 rfl rfl H
noncomputable def f_X12_here (x1 : Int32) (h : am_H) : Option Int32 :=
  if (h.1 (.inl 0) 0 3) ≤ ((h.1 (.inl 0) 0 4) + x1) then (some ((iI (-1)))) else (if ib ((h.1 (.inl 0) 0 4) + x1) 500 then (some ((h.1 (.inl 0) 1 (((h.1 (.inl 0) 0 4) + x1)).toNatClampNeg))) else none)
theorem c_X12_here {x1 : Int32} {h : am_H} {a : Int32} (e : f_X12_here x1 h = some a) : am_Mi yX12_here cX12_here 2 (some .int) 0 0 [am_r (.inl 0) 0, am_i x1] h a h := by
  refine am_M.ofi (A := [some (am_r (.inl 0) 0), some (am_i x1)]) (by decide +kernel) rfl (ble rfl) (fun Q hQ => ?_)
  have H : wp (f_X12_here x1 h) (fun a => Q (some (am_i a)) h) := ⟨a, e, hQ⟩
  unfold f_X12_here at H
  refine rl_a0 dX12_here_0 ?_
  refine ar_getI dX12_here_1 fg_X12_94 rfl rfl (ok_M rfl) ?_
  refine rl_i1 dX12_here_4 ?_
  refine ar_iadd dX12_here_5 ?_
  refine rl_a0 dX12_here_6 ?_
  refine ar_getI dX12_here_7 fg_X12_97 rfl rfl (ok_M rfl) ?_
  refine ar_ic_ge 27 dX12_here_10 (by decide) (fun c1 => ?_) (fun c1 => ?_)
  · replace H := wp_t c1 H
    refine ar_iconst (iI (-1)) dX12_here_27 rfl ?_
    replace H := wp_s H
    exact ar_iret dX12_here_28 rfl rfl H
  · replace H := wp_f c1 H
    refine rl_a0 dX12_here_13 ?_
    refine rg_R (.inl 0) 1 dX12_here_14 fg_X12_7 rfl rfl rfl (ok_M rfl) ?_
    refine rl_a0 dX12_here_17 ?_
    refine ar_getI dX12_here_18 fg_X12_94 rfl rfl (ok_M rfl) ?_
    refine rl_i1 dX12_here_21 ?_
    refine ar_iadd dX12_here_22 ?_
    obtain ⟨b1, H⟩ := wp_g H
    refine ar_iald dX12_here_23 rfl (ok_M rfl) (ib_in b1) ?_
    refine ar_goto 28 dX12_here_24 (by decide) ?_
    replace H := wp_s H
    exact ar_iret dX12_here_28 rfl rfl H
noncomputable def f_X12_isLetter (x0 : Int32) : Option Int32 :=
  if x0 < (iI (97)) then (some ((iI (0)))) else (if (iI (122)) < x0 then (some ((iI (0)))) else (some ((iI (1)))))
theorem c_X12_isLetter {x0 : Int32} {h : am_H} {a : Int32} (e : f_X12_isLetter x0 = some a) : am_Mi yX12_isLetter cX12_isLetter 1 (some .boolean) 0 0 [am_i x0] h a h := by
  refine am_M.ofi (A := [some (am_i x0)]) (by decide +kernel) rfl (ble rfl) (fun Q hQ => ?_)
  have H : wp (f_X12_isLetter x0) (fun a => Q (some (am_i a)) h) := ⟨a, e, hQ⟩
  unfold f_X12_isLetter at H
  refine rl_i0 dX12_isLetter_0 ?_
  refine ar_bipush (iI (97)) dX12_isLetter_1 rfl ?_
  refine ar_ic_lt 16 dX12_isLetter_3 (by decide) (fun c1 => ?_) (fun c1 => ?_)
  · replace H := wp_t c1 H
    refine ar_iconst (iI (0)) dX12_isLetter_16 rfl ?_
    replace H := wp_s H
    exact ar_iret dX12_isLetter_17 rfl rfl H
  · replace H := wp_f c1 H
    refine rl_i0 dX12_isLetter_6 ?_
    refine ar_bipush (iI (122)) dX12_isLetter_7 rfl ?_
    refine ar_ic_gt 16 dX12_isLetter_9 (by decide) (fun c2 => ?_) (fun c2 => ?_)
    · replace H := wp_t c2 H
      refine ar_iconst (iI (0)) dX12_isLetter_16 rfl ?_
      replace H := wp_s H
      exact ar_iret dX12_isLetter_17 rfl rfl H
    · replace H := wp_f c2 H
      refine ar_iconst (iI (1)) dX12_isLetter_12 rfl ?_
      refine ar_goto 17 dX12_isLetter_13 (by decide) ?_
      replace H := wp_s H
      exact ar_iret dX12_isLetter_17 rfl rfl H
noncomputable def f_X12_isDigit (x0 : Int32) : Option Int32 :=
  if x0 < (iI (48)) then (some ((iI (0)))) else (if (iI (57)) < x0 then (some ((iI (0)))) else (some ((iI (1)))))
theorem c_X12_isDigit {x0 : Int32} {h : am_H} {a : Int32} (e : f_X12_isDigit x0 = some a) : am_Mi yX12_isDigit cX12_isDigit 1 (some .boolean) 0 0 [am_i x0] h a h := by
  refine am_M.ofi (A := [some (am_i x0)]) (by decide +kernel) rfl (ble rfl) (fun Q hQ => ?_)
  have H : wp (f_X12_isDigit x0) (fun a => Q (some (am_i a)) h) := ⟨a, e, hQ⟩
  unfold f_X12_isDigit at H
  refine rl_i0 dX12_isDigit_0 ?_
  refine ar_bipush (iI (48)) dX12_isDigit_1 rfl ?_
  refine ar_ic_lt 16 dX12_isDigit_3 (by decide) (fun c1 => ?_) (fun c1 => ?_)
  · replace H := wp_t c1 H
    refine ar_iconst (iI (0)) dX12_isDigit_16 rfl ?_
    replace H := wp_s H
    exact ar_iret dX12_isDigit_17 rfl rfl H
  · replace H := wp_f c1 H
    refine rl_i0 dX12_isDigit_6 ?_
    refine ar_bipush (iI (57)) dX12_isDigit_7 rfl ?_
    refine ar_ic_gt 16 dX12_isDigit_9 (by decide) (fun c2 => ?_) (fun c2 => ?_)
    · replace H := wp_t c2 H
      refine ar_iconst (iI (0)) dX12_isDigit_16 rfl ?_
      replace H := wp_s H
      exact ar_iret dX12_isDigit_17 rfl rfl H
    · replace H := wp_f c2 H
      refine ar_iconst (iI (1)) dX12_isDigit_12 rfl ?_
      refine ar_goto 17 dX12_isDigit_13 (by decide) ?_
      replace H := wp_s H
      exact ar_iret dX12_isDigit_17 rfl rfl H
noncomputable def s_X12_goOn  : am_S am_H → Option (am_S am_H ⊕ am_H) := fun s => match s with
  | (0, [], [], [], h) => (f_X12_here (iI (0)) h).bind (fun a1 => if a1 = (iI (32)) then (am_lt (am_u h (.inl 0) 0 4 ((h.1 (.inl 0) 0 4) + (iI (1)))) (fun h1 => some (.inl (0, [], [], [], h1)))) else ((f_X12_here (iI (0)) h).bind (fun a2 => if a2 = (iI (10)) then (am_lt (am_u h (.inl 0) 0 4 ((h.1 (.inl 0) 0 4) + (iI (1)))) (fun h1 => some (.inl (0, [], [], [], h1)))) else (am_lt (am_u h (.inl 0) 0 5 (h.1 (.inl 0) 0 4)) (fun h1 => am_lt (am_ul h1 (.inl 0) 0 12 (0 : Int64)) (fun h2 => am_lt (am_u h2 (.inl 0) 0 7 (iI (0))) (fun h3 => (f_X12_here (iI (0)) h3).bind (fun a3 => if 0 ≤ a3 then ((f_X12_isLetter a3).bind (fun a4 => if a4 = 0 then ((f_X12_isDigit a3).bind (fun a5 => if a5 = 0 then (if a3 = (iI (59)) then (some (.inl (229, [a3, (iI (3))], [], [], h3))) else (if a3 = (iI (40)) then (some (.inl (229, [a3, (iI (3))], [], [], h3))) else (if a3 = (iI (41)) then (some (.inl (229, [a3, (iI (3))], [], [], h3))) else (some (.inl (229, [a3, (iI (4))], [], [], h3)))))) else (some (.inl (146, [(iI (0))], [], [], h3))))) else (some (.inl (76, [(iI (0))], [], [], h3))))) else (am_lt (am_u h3 (.inl 0) 0 6 (iI (0))) (fun h4 => some (.inr (h4))))))))))))
  | (76, [x2], [], [], h) => (f_X12_here x2 h).bind (fun a1 => (f_X12_isLetter a1).bind (fun a2 => if a2 = 0 then (if x2 ≤ (iI (8)) then (some (.inl (133, [x2, (iI (1))], [], [], h))) else (some (.inl (133, [x2, (iI (4))], [], [], h)))) else (if (iI (8)) ≤ x2 then (some (.inl (76, [(x2 + 1)], [], [], h))) else ((f_X12_here x2 h).bind (fun a3 => am_lt (am_ul h (.inl 0) 0 12 (((h.2.1 (.inl 0) 0 12) <<< ((iI (5)).toInt64 &&& 63)) ||| ((a3 - (iI (97))) + (iI (1))).toInt64)) (fun h1 => some (.inl (76, [(x2 + 1)], [], [], h1))))))))
  | (133, [x2, y1], [], [], h) => am_lt (am_u h (.inl 0) 0 6 y1) (fun h1 => am_lt (am_u h1 (.inl 0) 0 4 ((h1.1 (.inl 0) 0 4) + x2)) (fun h2 => some (.inr (h2))))
  | (146, [x2], [], [], h) => (f_X12_here x2 h).bind (fun a1 => (f_X12_isDigit a1).bind (fun a2 => if a2 = 0 then (if x2 ≤ (iI (3)) then (some (.inl (199, [x2, (iI (2))], [], [], h))) else (some (.inl (199, [x2, (iI (4))], [], [], h)))) else (if (iI (3)) ≤ x2 then (some (.inl (146, [(x2 + 1)], [], [], h))) else ((f_X12_here x2 h).bind (fun a3 => am_lt (am_u h (.inl 0) 0 7 ((((iI (10)) * (h.1 (.inl 0) 0 7)) + a3) - (iI (48)))) (fun h1 => some (.inl (146, [(x2 + 1)], [], [], h1))))))))
  | (199, [x2, y1], [], [], h) => am_lt (am_u h (.inl 0) 0 6 y1) (fun h1 => am_lt (am_u h1 (.inl 0) 0 4 ((h1.1 (.inl 0) 0 4) + x2)) (fun h2 => some (.inr (h2))))
  | (229, [x1, y1], [], [], h) => am_lt (am_u h (.inl 0) 0 6 y1) (fun h1 => am_lt (am_u h1 (.inl 0) 0 7 x1) (fun h2 => am_lt (am_u h2 (.inl 0) 0 4 ((h2.1 (.inl 0) 0 4) + (iI (1)))) (fun h3 => some (.inr (h3)))))
  | _ => none
noncomputable def f_X12_goOn_0   (h : am_H) : Option am_H := lp (s_X12_goOn) (0, [], [], [], h)
noncomputable def f_X12_goOn_76  (x2 : Int32) (h : am_H) : Option am_H := lp (s_X12_goOn) (76, [x2], [], [], h)
noncomputable def f_X12_goOn_133  (x2 : Int32) (y1 : Int32) (h : am_H) : Option am_H := lp (s_X12_goOn) (133, [x2, y1], [], [], h)
noncomputable def f_X12_goOn_146  (x2 : Int32) (h : am_H) : Option am_H := lp (s_X12_goOn) (146, [x2], [], [], h)
noncomputable def f_X12_goOn_199  (x2 : Int32) (y1 : Int32) (h : am_H) : Option am_H := lp (s_X12_goOn) (199, [x2, y1], [], [], h)
noncomputable def f_X12_goOn_229  (x1 : Int32) (y1 : Int32) (h : am_H) : Option am_H := lp (s_X12_goOn) (229, [x1, y1], [], [], h)
theorem e_X12_goOn_0   (h : am_H) : f_X12_goOn_0 h = ((f_X12_here (iI (0)) h).bind (fun a1 => if a1 = (iI (32)) then (am_lt (am_u h (.inl 0) 0 4 ((h.1 (.inl 0) 0 4) + (iI (1)))) (fun h1 => f_X12_goOn_0 h1)) else ((f_X12_here (iI (0)) h).bind (fun a2 => if a2 = (iI (10)) then (am_lt (am_u h (.inl 0) 0 4 ((h.1 (.inl 0) 0 4) + (iI (1)))) (fun h1 => f_X12_goOn_0 h1)) else (am_lt (am_u h (.inl 0) 0 5 (h.1 (.inl 0) 0 4)) (fun h1 => am_lt (am_ul h1 (.inl 0) 0 12 (0 : Int64)) (fun h2 => am_lt (am_u h2 (.inl 0) 0 7 (iI (0))) (fun h3 => (f_X12_here (iI (0)) h3).bind (fun a3 => if 0 ≤ a3 then ((f_X12_isLetter a3).bind (fun a4 => if a4 = 0 then ((f_X12_isDigit a3).bind (fun a5 => if a5 = 0 then (if a3 = (iI (59)) then (f_X12_goOn_229 a3 (iI (3)) h3) else (if a3 = (iI (40)) then (f_X12_goOn_229 a3 (iI (3)) h3) else (if a3 = (iI (41)) then (f_X12_goOn_229 a3 (iI (3)) h3) else (f_X12_goOn_229 a3 (iI (4)) h3)))) else (f_X12_goOn_146 (iI (0)) h3))) else (f_X12_goOn_76 (iI (0)) h3))) else (am_lt (am_u h3 (.inl 0) 0 6 (iI (0))) (fun h4 => some (h4)))))))))))) := by
  show lp _ _ = _
  rw [lp_eq, s_X12_goOn]
  simp only [lpk_i, lpk_b, lpk_l, lpk_n, lpk_j, lpk_r] <;> rfl
theorem e_X12_goOn_76  (x2 : Int32) (h : am_H) : f_X12_goOn_76 x2 h = ((f_X12_here x2 h).bind (fun a1 => (f_X12_isLetter a1).bind (fun a2 => if a2 = 0 then (if x2 ≤ (iI (8)) then (f_X12_goOn_133 x2 (iI (1)) h) else (f_X12_goOn_133 x2 (iI (4)) h)) else (if (iI (8)) ≤ x2 then (f_X12_goOn_76 (x2 + 1) h) else ((f_X12_here x2 h).bind (fun a3 => am_lt (am_ul h (.inl 0) 0 12 (((h.2.1 (.inl 0) 0 12) <<< ((iI (5)).toInt64 &&& 63)) ||| ((a3 - (iI (97))) + (iI (1))).toInt64)) (fun h1 => f_X12_goOn_76 (x2 + 1) h1))))))) := by
  show lp _ _ = _
  rw [lp_eq, s_X12_goOn]
  simp only [lpk_i, lpk_b, lpk_l, lpk_n, lpk_j, lpk_r] <;> rfl
theorem e_X12_goOn_133  (x2 : Int32) (y1 : Int32) (h : am_H) : f_X12_goOn_133 x2 y1 h = (am_lt (am_u h (.inl 0) 0 6 y1) (fun h1 => am_lt (am_u h1 (.inl 0) 0 4 ((h1.1 (.inl 0) 0 4) + x2)) (fun h2 => some (h2)))) := by
  show lp _ _ = _
  rw [lp_eq, s_X12_goOn]
  simp only [lpk_i, lpk_b, lpk_l, lpk_n, lpk_j, lpk_r] <;> rfl
theorem e_X12_goOn_146  (x2 : Int32) (h : am_H) : f_X12_goOn_146 x2 h = ((f_X12_here x2 h).bind (fun a1 => (f_X12_isDigit a1).bind (fun a2 => if a2 = 0 then (if x2 ≤ (iI (3)) then (f_X12_goOn_199 x2 (iI (2)) h) else (f_X12_goOn_199 x2 (iI (4)) h)) else (if (iI (3)) ≤ x2 then (f_X12_goOn_146 (x2 + 1) h) else ((f_X12_here x2 h).bind (fun a3 => am_lt (am_u h (.inl 0) 0 7 ((((iI (10)) * (h.1 (.inl 0) 0 7)) + a3) - (iI (48)))) (fun h1 => f_X12_goOn_146 (x2 + 1) h1))))))) := by
  show lp _ _ = _
  rw [lp_eq, s_X12_goOn]
  simp only [lpk_i, lpk_b, lpk_l, lpk_n, lpk_j, lpk_r] <;> rfl
theorem e_X12_goOn_199  (x2 : Int32) (y1 : Int32) (h : am_H) : f_X12_goOn_199 x2 y1 h = (am_lt (am_u h (.inl 0) 0 6 y1) (fun h1 => am_lt (am_u h1 (.inl 0) 0 4 ((h1.1 (.inl 0) 0 4) + x2)) (fun h2 => some (h2)))) := by
  show lp _ _ = _
  rw [lp_eq, s_X12_goOn]
  simp only [lpk_i, lpk_b, lpk_l, lpk_n, lpk_j, lpk_r] <;> rfl
theorem e_X12_goOn_229  (x1 : Int32) (y1 : Int32) (h : am_H) : f_X12_goOn_229 x1 y1 h = (am_lt (am_u h (.inl 0) 0 6 y1) (fun h1 => am_lt (am_u h1 (.inl 0) 0 7 x1) (fun h2 => am_lt (am_u h2 (.inl 0) 0 4 ((h2.1 (.inl 0) 0 4) + (iI (1)))) (fun h3 => some (h3))))) := by
  show lp _ _ = _
  rw [lp_eq, s_X12_goOn]
  simp only [lpk_i, lpk_b, lpk_l, lpk_n, lpk_j, lpk_r] <;> rfl
noncomputable def f_X12_goOn  (h : am_H) : Option am_H := f_X12_goOn_0 h
theorem c_X12_goOn_L  {Q : Option am_v → am_H → Prop} : ∀ s, wp (lp (s_X12_goOn) s) (fun a => Q none a) → ((∀ h, s = (0, [], [], [], h) → am_V RX12 cX12_goOn 3 (none) 1 21 0 0 none (am_Tm cX12_goOn (none) Q) 0 0 0 [some (am_r (.inl 0) 0), none, none] [] h) ∧ (∀ x2 h, s = (76, [x2], [], [], h) → am_V RX12 cX12_goOn 3 (none) 1 21 0 0 none (am_Tm cX12_goOn (none) Q) 0 0 76 [some (am_r (.inl 0) 0), none, some (am_i x2)] [] h) ∧ (∀ x2 y1 h, s = (133, [x2, y1], [], [], h) → am_V RX12 cX12_goOn 3 (none) 1 21 0 0 none (am_Tm cX12_goOn (none) Q) 0 0 133 [some (am_r (.inl 0) 0), none, some (am_i x2)] [am_i y1, am_r (.inl 0) 0] h) ∧ (∀ x2 h, s = (146, [x2], [], [], h) → am_V RX12 cX12_goOn 3 (none) 1 21 0 0 none (am_Tm cX12_goOn (none) Q) 0 0 146 [some (am_r (.inl 0) 0), none, some (am_i x2)] [] h) ∧ (∀ x2 y1 h, s = (199, [x2, y1], [], [], h) → am_V RX12 cX12_goOn 3 (none) 1 21 0 0 none (am_Tm cX12_goOn (none) Q) 0 0 199 [some (am_r (.inl 0) 0), none, some (am_i x2)] [am_i y1, am_r (.inl 0) 0] h) ∧ (∀ x1 y1 h, s = (229, [x1, y1], [], [], h) → am_V RX12 cX12_goOn 3 (none) 1 21 0 0 none (am_Tm cX12_goOn (none) Q) 0 0 229 [some (am_r (.inl 0) 0), some (am_i x1), none] [am_i y1, am_r (.inl 0) 0] h)) := by
  refine lp_ind _ _ (fun s H => ⟨fun h e => ?_, fun x2 h e => ?_, fun x2 y1 h e => ?_, fun x2 h e => ?_, fun x2 y1 h e => ?_, fun x1 y1 h e => ?_⟩)
  · subst e
    rw [s_X12_goOn] at H
    refine rl_a0 dX12_goOn_0 ?_
    refine ar_iconst (iI (0)) dX12_goOn_1 rfl ?_
    obtain ⟨a1, e1, H⟩ := wp_b H
    refine rc_V1i dX12_goOn_2 ml_X12_100 mc_X12_here (c_X12_here e1) rfl rfl rfl (ok_M rfl) rfl rfl rfl ?_
    refine ar_bipush (iI (32)) dX12_goOn_5 rfl ?_
    refine ar_ic_eq 20 dX12_goOn_7 (by decide) (fun c1 => ?_) (fun c1 => ?_)
    · replace H := wp_t c1 H
      refine rl_a0 dX12_goOn_20 ?_
      refine ar_dup dX12_goOn_21 trivial ?_
      refine ar_getI dX12_goOn_22 fg_X12_94 rfl rfl (ok_M rfl) ?_
      refine ar_iconst (iI (1)) dX12_goOn_25 rfl ?_
      refine ar_iadd dX12_goOn_26 ?_
      refine ar_putI dX12_goOn_27 fg_X12_94 rfl rfl (ok_M rfl) rfl rfl ?_
      replace H := wp_l H
      generalize am_u h (.inl 0) 0 4 ((h.1 (.inl 0) 0 4) + (iI (1))) = h1 at H ⊢
      refine ar_goto 0 dX12_goOn_30 (by decide) ?_
      exact am_V.wk (am_s (am_n (am_n am_0))) ((lp_in H).1 _ rfl)
    · replace H := wp_f c1 H
      refine rl_a0 dX12_goOn_10 ?_
      refine ar_iconst (iI (0)) dX12_goOn_11 rfl ?_
      obtain ⟨a2, e2, H⟩ := wp_b H
      refine rc_V1i dX12_goOn_12 ml_X12_100 mc_X12_here (c_X12_here e2) rfl rfl rfl (ok_M rfl) rfl rfl rfl ?_
      refine ar_bipush (iI (10)) dX12_goOn_15 rfl ?_
      refine ar_ic_ne 33 dX12_goOn_17 (by decide) (fun c2 => ?_) (fun c2 => ?_)
      · replace H := wp_f c2 H
        refine rl_a0 dX12_goOn_33 ?_
        refine rl_a0 dX12_goOn_34 ?_
        refine ar_getI dX12_goOn_35 fg_X12_94 rfl rfl (ok_M rfl) ?_
        refine ar_putI dX12_goOn_38 fg_X12_104 rfl rfl (ok_M rfl) rfl rfl ?_
        replace H := wp_l H
        generalize am_u h (.inl 0) 0 5 (h.1 (.inl 0) 0 4) = h1 at H ⊢
        refine rl_a0 dX12_goOn_41 ?_
        refine ar_lconst (0 : Int64) dX12_goOn_42 rfl ?_
        refine ar_putL dX12_goOn_43 fg_X12_107 rfl rfl (ok_M rfl) rfl rfl ?_
        replace H := wp_l H
        generalize am_ul h1 (.inl 0) 0 12 (0 : Int64) = h2 at H ⊢
        refine rl_a0 dX12_goOn_46 ?_
        refine ar_iconst (iI (0)) dX12_goOn_47 rfl ?_
        refine ar_putI dX12_goOn_48 fg_X12_111 rfl rfl (ok_M rfl) rfl rfl ?_
        replace H := wp_l H
        generalize am_u h2 (.inl 0) 0 7 (iI (0)) = h3 at H ⊢
        refine rl_a0 dX12_goOn_51 ?_
        refine ar_iconst (iI (0)) dX12_goOn_52 rfl ?_
        obtain ⟨a3, e3, H⟩ := wp_b H
        refine rc_V1i dX12_goOn_53 ml_X12_100 mc_X12_here (c_X12_here e3) rfl rfl rfl (ok_M rfl) rfl rfl rfl ?_
        refine rs_i1 dX12_goOn_56 rfl trivial ?_
        refine ar_iconst (iI (0)) dX12_goOn_57 rfl ?_
        refine rs_i2 dX12_goOn_58 rfl trivial ?_
        refine rl_i1 dX12_goOn_59 ?_
        refine ar_if_ge 69 dX12_goOn_60 (by decide) (fun c3 => ?_) (fun c3 => ?_)
        · replace H := wp_t c3 H
          refine rl_i1 dX12_goOn_69 ?_
          obtain ⟨a4, e4, H⟩ := wp_b H
          refine rc_S1i dX12_goOn_70 ml_X12_117 mc_X12_isLetter (c_X12_isLetter e4) rfl rfl rfl ?_
          refine ar_if_eq 139 dX12_goOn_73 (by decide) (fun c4 => ?_) (fun c4 => ?_)
          · replace H := wp_t c4 H
            refine rl_i1 dX12_goOn_139 ?_
            obtain ⟨a5, e5, H⟩ := wp_b H
            refine rc_S1i dX12_goOn_140 ml_X12_121 mc_X12_isDigit (c_X12_isDigit e5) rfl rfl rfl ?_
            refine ar_if_eq 205 dX12_goOn_143 (by decide) (fun c5 => ?_) (fun c5 => ?_)
            · replace H := wp_t c5 H
              refine rl_a0 dX12_goOn_205 ?_
              refine rl_i1 dX12_goOn_206 ?_
              refine ar_bipush (iI (59)) dX12_goOn_207 rfl ?_
              refine ar_ic_eq 224 dX12_goOn_209 (by decide) (fun c6 => ?_) (fun c6 => ?_)
              · replace H := wp_t c6 H
                refine ar_iconst (iI (3)) dX12_goOn_224 rfl ?_
                refine ar_goto 229 dX12_goOn_225 (by decide) ?_
                exact am_V.wk (am_s (am_s (am_n am_0))) ((lp_in H).2.2.2.2.2 _ _ _ rfl)
              · replace H := wp_f c6 H
                refine rl_i1 dX12_goOn_212 ?_
                refine ar_bipush (iI (40)) dX12_goOn_213 rfl ?_
                refine ar_ic_eq 224 dX12_goOn_215 (by decide) (fun c7 => ?_) (fun c7 => ?_)
                · replace H := wp_t c7 H
                  refine ar_iconst (iI (3)) dX12_goOn_224 rfl ?_
                  refine ar_goto 229 dX12_goOn_225 (by decide) ?_
                  exact am_V.wk (am_s (am_s (am_n am_0))) ((lp_in H).2.2.2.2.2 _ _ _ rfl)
                · replace H := wp_f c7 H
                  refine rl_i1 dX12_goOn_218 ?_
                  refine ar_bipush (iI (41)) dX12_goOn_219 rfl ?_
                  refine ar_ic_ne 228 dX12_goOn_221 (by decide) (fun c8 => ?_) (fun c8 => ?_)
                  · replace H := wp_f c8 H
                    refine ar_iconst (iI (4)) dX12_goOn_228 rfl ?_
                    exact am_V.wk (am_s (am_s (am_n am_0))) ((lp_in H).2.2.2.2.2 _ _ _ rfl)
                  · replace H := wp_t c8 H
                    refine ar_iconst (iI (3)) dX12_goOn_224 rfl ?_
                    refine ar_goto 229 dX12_goOn_225 (by decide) ?_
                    exact am_V.wk (am_s (am_s (am_n am_0))) ((lp_in H).2.2.2.2.2 _ _ _ rfl)
            · replace H := wp_f c5 H
              exact am_V.wk (am_s (am_n (am_s am_0))) ((lp_in H).2.2.2.1 _ _ rfl)
          · replace H := wp_f c4 H
            exact am_V.wk (am_s (am_n (am_s am_0))) ((lp_in H).2.1 _ _ rfl)
        · replace H := wp_f c3 H
          refine rl_a0 dX12_goOn_63 ?_
          refine ar_iconst (iI (0)) dX12_goOn_64 rfl ?_
          refine ar_putI dX12_goOn_65 fg_X12_114 rfl rfl (ok_M rfl) rfl rfl ?_
          replace H := wp_l H
          generalize am_u h3 (.inl 0) 0 6 (iI (0)) = h4 at H ⊢
          replace H := lp_re H
          exact ar_vret dX12_goOn_68 rfl H
      · replace H := wp_t c2 H
        refine rl_a0 dX12_goOn_20 ?_
        refine ar_dup dX12_goOn_21 trivial ?_
        refine ar_getI dX12_goOn_22 fg_X12_94 rfl rfl (ok_M rfl) ?_
        refine ar_iconst (iI (1)) dX12_goOn_25 rfl ?_
        refine ar_iadd dX12_goOn_26 ?_
        refine ar_putI dX12_goOn_27 fg_X12_94 rfl rfl (ok_M rfl) rfl rfl ?_
        replace H := wp_l H
        generalize am_u h (.inl 0) 0 4 ((h.1 (.inl 0) 0 4) + (iI (1))) = h1 at H ⊢
        refine ar_goto 0 dX12_goOn_30 (by decide) ?_
        exact am_V.wk (am_s (am_n (am_n am_0))) ((lp_in H).1 _ rfl)
  · subst e
    rw [s_X12_goOn] at H
    refine rl_a0 dX12_goOn_76 ?_
    refine rl_i2 dX12_goOn_77 ?_
    obtain ⟨a1, e1, H⟩ := wp_b H
    refine rc_V1i dX12_goOn_78 ml_X12_100 mc_X12_here (c_X12_here e1) rfl rfl rfl (ok_M rfl) rfl rfl rfl ?_
    obtain ⟨a2, e2, H⟩ := wp_b H
    refine rc_S1i dX12_goOn_81 ml_X12_117 mc_X12_isLetter (c_X12_isLetter e2) rfl rfl rfl ?_
    refine ar_if_eq 121 dX12_goOn_84 (by decide) (fun c1 => ?_) (fun c1 => ?_)
    · replace H := wp_t c1 H
      refine rl_a0 dX12_goOn_121 ?_
      refine rl_i2 dX12_goOn_122 ?_
      refine ar_bipush (iI (8)) dX12_goOn_123 rfl ?_
      refine ar_ic_le 132 dX12_goOn_125 (by decide) (fun c2 => ?_) (fun c2 => ?_)
      · replace H := wp_t c2 H
        refine ar_iconst (iI (1)) dX12_goOn_132 rfl ?_
        exact am_V.wk (am_s (am_n (am_s am_0))) ((lp_in H).2.2.1 _ _ _ rfl)
      · replace H := wp_f c2 H
        refine ar_iconst (iI (4)) dX12_goOn_128 rfl ?_
        refine ar_goto 133 dX12_goOn_129 (by decide) ?_
        exact am_V.wk (am_s (am_n (am_s am_0))) ((lp_in H).2.2.1 _ _ _ rfl)
    · replace H := wp_f c1 H
      refine rl_i2 dX12_goOn_87 ?_
      refine ar_bipush (iI (8)) dX12_goOn_88 rfl ?_
      refine ar_ic_ge 115 dX12_goOn_90 (by decide) (fun c2 => ?_) (fun c2 => ?_)
      · replace H := wp_t c2 H
        refine rn_1_2 dX12_goOn_115 rfl trivial ?_
        refine ar_goto 76 dX12_goOn_118 (by decide) ?_
        exact am_V.wk (am_s (am_n (am_s am_0))) ((lp_in H).2.1 _ _ rfl)
      · replace H := wp_f c2 H
        refine rl_a0 dX12_goOn_93 ?_
        refine rl_a0 dX12_goOn_94 ?_
        refine ar_getL dX12_goOn_95 fg_X12_107 rfl rfl (ok_M rfl) ?_
        refine ar_iconst (iI (5)) dX12_goOn_98 rfl ?_
        refine ar_lshl dX12_goOn_99 ?_
        refine rl_a0 dX12_goOn_100 ?_
        refine rl_i2 dX12_goOn_101 ?_
        obtain ⟨a3, e3, H⟩ := wp_b H
        refine rc_V1i dX12_goOn_102 ml_X12_100 mc_X12_here (c_X12_here e3) rfl rfl rfl (ok_M rfl) rfl rfl rfl ?_
        refine ar_bipush (iI (97)) dX12_goOn_105 rfl ?_
        refine ar_isub dX12_goOn_107 ?_
        refine ar_iconst (iI (1)) dX12_goOn_108 rfl ?_
        refine ar_iadd dX12_goOn_109 ?_
        refine ar_i2l dX12_goOn_110 ?_
        refine ar_lor dX12_goOn_111 ?_
        refine ar_putL dX12_goOn_112 fg_X12_107 rfl rfl (ok_M rfl) rfl rfl ?_
        replace H := wp_l H
        generalize am_ul h (.inl 0) 0 12 (((h.2.1 (.inl 0) 0 12) <<< ((iI (5)).toInt64 &&& 63)) ||| ((a3 - (iI (97))) + (iI (1))).toInt64) = h1 at H ⊢
        refine rn_1_2 dX12_goOn_115 rfl trivial ?_
        refine ar_goto 76 dX12_goOn_118 (by decide) ?_
        exact am_V.wk (am_s (am_n (am_s am_0))) ((lp_in H).2.1 _ _ rfl)
  · subst e
    rw [s_X12_goOn] at H
    refine ar_putI dX12_goOn_133 fg_X12_114 rfl rfl (ok_M rfl) rfl rfl ?_
    replace H := wp_l H
    generalize am_u h (.inl 0) 0 6 y1 = h1 at H ⊢
    refine ar_goto 239 dX12_goOn_136 (by decide) ?_
    refine rl_a0 dX12_goOn_239 ?_
    refine ar_dup dX12_goOn_240 trivial ?_
    refine ar_getI dX12_goOn_241 fg_X12_94 rfl rfl (ok_M rfl) ?_
    refine rl_i2 dX12_goOn_244 ?_
    refine ar_iadd dX12_goOn_245 ?_
    refine ar_putI dX12_goOn_246 fg_X12_94 rfl rfl (ok_M rfl) rfl rfl ?_
    replace H := wp_l H
    generalize am_u h1 (.inl 0) 0 4 ((h1.1 (.inl 0) 0 4) + x2) = h2 at H ⊢
    replace H := lp_re H
    exact ar_vret dX12_goOn_249 rfl H
  · subst e
    rw [s_X12_goOn] at H
    refine rl_a0 dX12_goOn_146 ?_
    refine rl_i2 dX12_goOn_147 ?_
    obtain ⟨a1, e1, H⟩ := wp_b H
    refine rc_V1i dX12_goOn_148 ml_X12_100 mc_X12_here (c_X12_here e1) rfl rfl rfl (ok_M rfl) rfl rfl rfl ?_
    obtain ⟨a2, e2, H⟩ := wp_b H
    refine rc_S1i dX12_goOn_151 ml_X12_121 mc_X12_isDigit (c_X12_isDigit e2) rfl rfl rfl ?_
    refine ar_if_eq 188 dX12_goOn_154 (by decide) (fun c1 => ?_) (fun c1 => ?_)
    · replace H := wp_t c1 H
      refine rl_a0 dX12_goOn_188 ?_
      refine rl_i2 dX12_goOn_189 ?_
      refine ar_iconst (iI (3)) dX12_goOn_190 rfl ?_
      refine ar_ic_le 198 dX12_goOn_191 (by decide) (fun c2 => ?_) (fun c2 => ?_)
      · replace H := wp_t c2 H
        refine ar_iconst (iI (2)) dX12_goOn_198 rfl ?_
        exact am_V.wk (am_s (am_n (am_s am_0))) ((lp_in H).2.2.2.2.1 _ _ _ rfl)
      · replace H := wp_f c2 H
        refine ar_iconst (iI (4)) dX12_goOn_194 rfl ?_
        refine ar_goto 199 dX12_goOn_195 (by decide) ?_
        exact am_V.wk (am_s (am_n (am_s am_0))) ((lp_in H).2.2.2.2.1 _ _ _ rfl)
    · replace H := wp_f c1 H
      refine rl_i2 dX12_goOn_157 ?_
      refine ar_iconst (iI (3)) dX12_goOn_158 rfl ?_
      refine ar_ic_ge 182 dX12_goOn_159 (by decide) (fun c2 => ?_) (fun c2 => ?_)
      · replace H := wp_t c2 H
        refine rn_1_2 dX12_goOn_182 rfl trivial ?_
        refine ar_goto 146 dX12_goOn_185 (by decide) ?_
        exact am_V.wk (am_s (am_n (am_s am_0))) ((lp_in H).2.2.2.1 _ _ rfl)
      · replace H := wp_f c2 H
        refine rl_a0 dX12_goOn_162 ?_
        refine ar_bipush (iI (10)) dX12_goOn_163 rfl ?_
        refine rl_a0 dX12_goOn_165 ?_
        refine ar_getI dX12_goOn_166 fg_X12_111 rfl rfl (ok_M rfl) ?_
        refine ar_imul dX12_goOn_169 ?_
        refine rl_a0 dX12_goOn_170 ?_
        refine rl_i2 dX12_goOn_171 ?_
        obtain ⟨a3, e3, H⟩ := wp_b H
        refine rc_V1i dX12_goOn_172 ml_X12_100 mc_X12_here (c_X12_here e3) rfl rfl rfl (ok_M rfl) rfl rfl rfl ?_
        refine ar_iadd dX12_goOn_175 ?_
        refine ar_bipush (iI (48)) dX12_goOn_176 rfl ?_
        refine ar_isub dX12_goOn_178 ?_
        refine ar_putI dX12_goOn_179 fg_X12_111 rfl rfl (ok_M rfl) rfl rfl ?_
        replace H := wp_l H
        generalize am_u h (.inl 0) 0 7 ((((iI (10)) * (h.1 (.inl 0) 0 7)) + a3) - (iI (48))) = h1 at H ⊢
        refine rn_1_2 dX12_goOn_182 rfl trivial ?_
        refine ar_goto 146 dX12_goOn_185 (by decide) ?_
        exact am_V.wk (am_s (am_n (am_s am_0))) ((lp_in H).2.2.2.1 _ _ rfl)
  · subst e
    rw [s_X12_goOn] at H
    refine ar_putI dX12_goOn_199 fg_X12_114 rfl rfl (ok_M rfl) rfl rfl ?_
    replace H := wp_l H
    generalize am_u h (.inl 0) 0 6 y1 = h1 at H ⊢
    refine ar_goto 239 dX12_goOn_202 (by decide) ?_
    refine rl_a0 dX12_goOn_239 ?_
    refine ar_dup dX12_goOn_240 trivial ?_
    refine ar_getI dX12_goOn_241 fg_X12_94 rfl rfl (ok_M rfl) ?_
    refine rl_i2 dX12_goOn_244 ?_
    refine ar_iadd dX12_goOn_245 ?_
    refine ar_putI dX12_goOn_246 fg_X12_94 rfl rfl (ok_M rfl) rfl rfl ?_
    replace H := wp_l H
    generalize am_u h1 (.inl 0) 0 4 ((h1.1 (.inl 0) 0 4) + x2) = h2 at H ⊢
    replace H := lp_re H
    exact ar_vret dX12_goOn_249 rfl H
  · subst e
    rw [s_X12_goOn] at H
    refine ar_putI dX12_goOn_229 fg_X12_114 rfl rfl (ok_M rfl) rfl rfl ?_
    replace H := wp_l H
    generalize am_u h (.inl 0) 0 6 y1 = h1 at H ⊢
    refine rl_a0 dX12_goOn_232 ?_
    refine rl_i1 dX12_goOn_233 ?_
    refine ar_putI dX12_goOn_234 fg_X12_111 rfl rfl (ok_M rfl) rfl rfl ?_
    replace H := wp_l H
    generalize am_u h1 (.inl 0) 0 7 x1 = h2 at H ⊢
    refine ar_iconst (iI (1)) dX12_goOn_237 rfl ?_
    refine rs_i2 dX12_goOn_238 rfl trivial ?_
    refine rl_a0 dX12_goOn_239 ?_
    refine ar_dup dX12_goOn_240 trivial ?_
    refine ar_getI dX12_goOn_241 fg_X12_94 rfl rfl (ok_M rfl) ?_
    refine rl_i2 dX12_goOn_244 ?_
    refine ar_iadd dX12_goOn_245 ?_
    refine ar_putI dX12_goOn_246 fg_X12_94 rfl rfl (ok_M rfl) rfl rfl ?_
    replace H := wp_l H
    generalize am_u h2 (.inl 0) 0 4 ((h2.1 (.inl 0) 0 4) + (iI (1))) = h3 at H ⊢
    replace H := lp_re H
    exact ar_vret dX12_goOn_249 rfl H
theorem c_X12_goOn  {h : am_H} {a : am_H} (e : f_X12_goOn h = some a) : am_Mv yX12_goOn cX12_goOn 3 (none) 1 21 [am_r (.inl 0) 0] h a := by
  refine am_M.ofv (A := [some (am_r (.inl 0) 0), none, none]) (by decide +kernel) rfl (ble rfl) (fun Q hQ => ?_)
  have H : wp (f_X12_goOn h) (fun a => Q none a) := ⟨a, e, hQ⟩
  unfold f_X12_goOn at H
  exact am_V.wk (am_s (am_n (am_n am_0))) ((c_X12_goOn_L  _ H).1 _ rfl)
noncomputable def f_X12_wrong (x1 : Int32) (h : am_H) : Option am_H :=
  if (h.1 (.inl 0) 0 8) ≤ 0 then (if (h.1 (.inl 0) 0 6) = (iI (4)) then (am_lt (am_u h (.inl 0) 0 8 (iI (1))) (fun h1 => am_lt (am_u h1 (.inl 0) 0 9 (h1.1 (.inl 0) 0 5)) (fun h2 => some (h2)))) else (am_lt (am_u h (.inl 0) 0 8 x1) (fun h1 => am_lt (am_u h1 (.inl 0) 0 9 (h1.1 (.inl 0) 0 5)) (fun h2 => some (h2))))) else (some (h))
theorem c_X12_wrong {x1 : Int32} {h : am_H} {a : am_H} (e : f_X12_wrong x1 h = some a) : am_Mv yX12_wrong cX12_wrong 2 (none) 0 0 [am_r (.inl 0) 0, am_i x1] h a := by
  refine am_M.ofv (A := [some (am_r (.inl 0) 0), some (am_i x1)]) (by decide +kernel) rfl (ble rfl) (fun Q hQ => ?_)
  have H : wp (f_X12_wrong x1 h) (fun a => Q none a) := ⟨a, e, hQ⟩
  unfold f_X12_wrong at H
  refine rl_a0 dX12_wrong_0 ?_
  refine ar_getI dX12_wrong_1 fg_X12_124 rfl rfl (ok_M rfl) ?_
  refine ar_if_le 8 dX12_wrong_4 (by decide) (fun c1 => ?_) (fun c1 => ?_)
  · replace H := wp_t c1 H
    refine rl_a0 dX12_wrong_8 ?_
    refine rl_a0 dX12_wrong_9 ?_
    refine ar_getI dX12_wrong_10 fg_X12_114 rfl rfl (ok_M rfl) ?_
    refine ar_iconst (iI (4)) dX12_wrong_13 rfl ?_
    refine ar_ic_ne 21 dX12_wrong_14 (by decide) (fun c2 => ?_) (fun c2 => ?_)
    · replace H := wp_f c2 H
      refine rl_i1 dX12_wrong_21 ?_
      refine ar_putI dX12_wrong_22 fg_X12_124 rfl rfl (ok_M rfl) rfl rfl ?_
      replace H := wp_l H
      generalize am_u h (.inl 0) 0 8 x1 = h1 at H ⊢
      refine rl_a0 dX12_wrong_25 ?_
      refine rl_a0 dX12_wrong_26 ?_
      refine ar_getI dX12_wrong_27 fg_X12_104 rfl rfl (ok_M rfl) ?_
      refine ar_putI dX12_wrong_30 fg_X12_13 rfl rfl (ok_M rfl) rfl rfl ?_
      replace H := wp_l H
      generalize am_u h1 (.inl 0) 0 9 (h1.1 (.inl 0) 0 5) = h2 at H ⊢
      replace H := wp_s H
      exact ar_vret dX12_wrong_33 rfl H
    · replace H := wp_t c2 H
      refine ar_iconst (iI (1)) dX12_wrong_17 rfl ?_
      refine ar_goto 22 dX12_wrong_18 (by decide) ?_
      refine ar_putI dX12_wrong_22 fg_X12_124 rfl rfl (ok_M rfl) rfl rfl ?_
      replace H := wp_l H
      generalize am_u h (.inl 0) 0 8 (iI (1)) = h1 at H ⊢
      refine rl_a0 dX12_wrong_25 ?_
      refine rl_a0 dX12_wrong_26 ?_
      refine ar_getI dX12_wrong_27 fg_X12_104 rfl rfl (ok_M rfl) ?_
      refine ar_putI dX12_wrong_30 fg_X12_13 rfl rfl (ok_M rfl) rfl rfl ?_
      replace H := wp_l H
      generalize am_u h1 (.inl 0) 0 9 (h1.1 (.inl 0) 0 5) = h2 at H ⊢
      replace H := wp_s H
      exact ar_vret dX12_wrong_33 rfl H
  · replace H := wp_f c1 H
    replace H := wp_s H
    exact ar_vret dX12_wrong_7 rfl H
noncomputable def f_X12_isGood  (h : am_H) : Option Int32 :=
  if (h.1 (.inl 0) 0 8) = 0 then (some ((iI (1)))) else (some ((iI (0))))
theorem c_X12_isGood  {h : am_H} {a : Int32} (e : f_X12_isGood h = some a) : am_Mi yX12_isGood cX12_isGood 1 (some .boolean) 0 0 [am_r (.inl 0) 0] h a h := by
  refine am_M.ofi (A := [some (am_r (.inl 0) 0)]) (by decide +kernel) rfl (ble rfl) (fun Q hQ => ?_)
  have H : wp (f_X12_isGood h) (fun a => Q (some (am_i a)) h) := ⟨a, e, hQ⟩
  unfold f_X12_isGood at H
  refine rl_a0 dX12_isGood_0 ?_
  refine ar_getI dX12_isGood_1 fg_X12_124 rfl rfl (ok_M rfl) ?_
  refine ar_if_ne 11 dX12_isGood_4 (by decide) (fun c1 => ?_) (fun c1 => ?_)
  · replace H := wp_f c1 H
    refine ar_iconst (iI (0)) dX12_isGood_11 rfl ?_
    replace H := wp_s H
    exact ar_iret dX12_isGood_12 rfl rfl H
  · replace H := wp_t c1 H
    refine ar_iconst (iI (1)) dX12_isGood_7 rfl ?_
    refine ar_goto 12 dX12_isGood_8 (by decide) ?_
    replace H := wp_s H
    exact ar_iret dX12_isGood_12 rfl rfl H
noncomputable def f_X12_isWord (x1 : Int64) (h : am_H) : Option Int32 :=
  if (h.1 (.inl 0) 0 8) = 0 then (if (h.1 (.inl 0) 0 6) = (iI (1)) then (if (lg_cmp (h.2.1 (.inl 0) 0 12) x1) = 0 then (some ((iI (1)))) else (some ((iI (0))))) else (some ((iI (0))))) else (some ((iI (0))))
theorem c_X12_isWord {x1 : Int64} {h : am_H} {a : Int32} (e : f_X12_isWord x1 h = some a) : am_Mi yX12_isWord cX12_isWord 3 (some .boolean) 0 0 [am_r (.inl 0) 0, am_l x1] h a h := by
  refine am_M.ofi (A := [some (am_r (.inl 0) 0), some (am_l x1), none]) (by decide +kernel) rfl (ble rfl) (fun Q hQ => ?_)
  have H : wp (f_X12_isWord x1 h) (fun a => Q (some (am_i a)) h) := ⟨a, e, hQ⟩
  unfold f_X12_isWord at H
  refine rl_a0 dX12_isWord_0 ?_
  refine ar_getI dX12_isWord_1 fg_X12_124 rfl rfl (ok_M rfl) ?_
  refine ar_if_ne 28 dX12_isWord_4 (by decide) (fun c1 => ?_) (fun c1 => ?_)
  · replace H := wp_f c1 H
    refine ar_iconst (iI (0)) dX12_isWord_28 rfl ?_
    replace H := wp_s H
    exact ar_iret dX12_isWord_29 rfl rfl H
  · replace H := wp_t c1 H
    refine rl_a0 dX12_isWord_7 ?_
    refine ar_getI dX12_isWord_8 fg_X12_114 rfl rfl (ok_M rfl) ?_
    refine ar_iconst (iI (1)) dX12_isWord_11 rfl ?_
    refine ar_ic_ne 28 dX12_isWord_12 (by decide) (fun c2 => ?_) (fun c2 => ?_)
    · replace H := wp_f c2 H
      refine ar_iconst (iI (0)) dX12_isWord_28 rfl ?_
      replace H := wp_s H
      exact ar_iret dX12_isWord_29 rfl rfl H
    · replace H := wp_t c2 H
      refine rl_a0 dX12_isWord_15 ?_
      refine ar_getL dX12_isWord_16 fg_X12_107 rfl rfl (ok_M rfl) ?_
      refine rl_l1 dX12_isWord_19 ?_
      refine ar_lcmp dX12_isWord_20 ?_
      refine ar_if_ne 28 dX12_isWord_21 (by decide) (fun c3 => ?_) (fun c3 => ?_)
      · replace H := wp_f c3 H
        refine ar_iconst (iI (0)) dX12_isWord_28 rfl ?_
        replace H := wp_s H
        exact ar_iret dX12_isWord_29 rfl rfl H
      · replace H := wp_t c3 H
        refine ar_iconst (iI (1)) dX12_isWord_24 rfl ?_
        refine ar_goto 29 dX12_isWord_25 (by decide) ?_
        replace H := wp_s H
        exact ar_iret dX12_isWord_29 rfl rfl H
noncomputable def f_X12_isSign (x1 : Int32) (h : am_H) : Option Int32 :=
  if (h.1 (.inl 0) 0 8) = 0 then (if (h.1 (.inl 0) 0 6) = (iI (3)) then (if (h.1 (.inl 0) 0 7) = x1 then (some ((iI (1)))) else (some ((iI (0))))) else (some ((iI (0))))) else (some ((iI (0))))
theorem c_X12_isSign {x1 : Int32} {h : am_H} {a : Int32} (e : f_X12_isSign x1 h = some a) : am_Mi yX12_isSign cX12_isSign 2 (some .boolean) 0 0 [am_r (.inl 0) 0, am_i x1] h a h := by
  refine am_M.ofi (A := [some (am_r (.inl 0) 0), some (am_i x1)]) (by decide +kernel) rfl (ble rfl) (fun Q hQ => ?_)
  have H : wp (f_X12_isSign x1 h) (fun a => Q (some (am_i a)) h) := ⟨a, e, hQ⟩
  unfold f_X12_isSign at H
  refine rl_a0 dX12_isSign_0 ?_
  refine ar_getI dX12_isSign_1 fg_X12_124 rfl rfl (ok_M rfl) ?_
  refine ar_if_ne 27 dX12_isSign_4 (by decide) (fun c1 => ?_) (fun c1 => ?_)
  · replace H := wp_f c1 H
    refine ar_iconst (iI (0)) dX12_isSign_27 rfl ?_
    replace H := wp_s H
    exact ar_iret dX12_isSign_28 rfl rfl H
  · replace H := wp_t c1 H
    refine rl_a0 dX12_isSign_7 ?_
    refine ar_getI dX12_isSign_8 fg_X12_114 rfl rfl (ok_M rfl) ?_
    refine ar_iconst (iI (3)) dX12_isSign_11 rfl ?_
    refine ar_ic_ne 27 dX12_isSign_12 (by decide) (fun c2 => ?_) (fun c2 => ?_)
    · replace H := wp_f c2 H
      refine ar_iconst (iI (0)) dX12_isSign_27 rfl ?_
      replace H := wp_s H
      exact ar_iret dX12_isSign_28 rfl rfl H
    · replace H := wp_t c2 H
      refine rl_a0 dX12_isSign_15 ?_
      refine ar_getI dX12_isSign_16 fg_X12_111 rfl rfl (ok_M rfl) ?_
      refine rl_i1 dX12_isSign_19 ?_
      refine ar_ic_ne 27 dX12_isSign_20 (by decide) (fun c3 => ?_) (fun c3 => ?_)
      · replace H := wp_f c3 H
        refine ar_iconst (iI (0)) dX12_isSign_27 rfl ?_
        replace H := wp_s H
        exact ar_iret dX12_isSign_28 rfl rfl H
      · replace H := wp_t c3 H
        refine ar_iconst (iI (1)) dX12_isSign_23 rfl ?_
        refine ar_goto 28 dX12_isSign_24 (by decide) ?_
        replace H := wp_s H
        exact ar_iret dX12_isSign_28 rfl rfl H
noncomputable def f_X12_mustSign (x1 : Int32) (h : am_H) : Option am_H :=
  (f_X12_isGood h).bind (fun a1 => if a1 = 0 then ((f_X12_isGood h).bind (fun a2 => if a2 = 0 then (some (h)) else ((f_X12_goOn h).bind (fun a3 => some (a3))))) else ((f_X12_isSign x1 h).bind (fun a2 => if a2 = 0 then ((f_X12_wrong (iI (1)) h).bind (fun a3 => (f_X12_isGood a3).bind (fun a4 => if a4 = 0 then (some (a3)) else ((f_X12_goOn a3).bind (fun a5 => some (a5)))))) else ((f_X12_isGood h).bind (fun a3 => if a3 = 0 then (some (h)) else ((f_X12_goOn h).bind (fun a4 => some (a4))))))))
theorem c_X12_mustSign {x1 : Int32} {h : am_H} {a : am_H} (e : f_X12_mustSign x1 h = some a) : am_Mv yX12_mustSign cX12_mustSign 2 (none) 2 43 [am_r (.inl 0) 0, am_i x1] h a := by
  refine am_M.ofv (A := [some (am_r (.inl 0) 0), some (am_i x1)]) (by decide +kernel) rfl (ble rfl) (fun Q hQ => ?_)
  have H : wp (f_X12_mustSign x1 h) (fun a => Q none a) := ⟨a, e, hQ⟩
  unfold f_X12_mustSign at H
  refine rl_a0 dX12_mustSign_0 ?_
  obtain ⟨a1, e1, H⟩ := wp_b H
  refine rc_V0i dX12_mustSign_1 ml_X12_127 mc_X12_isGood (c_X12_isGood e1) rfl rfl rfl (ok_M rfl) rfl rfl rfl ?_
  refine ar_if_eq 20 dX12_mustSign_4 (by decide) (fun c1 => ?_) (fun c1 => ?_)
  · replace H := wp_t c1 H
    refine rl_a0 dX12_mustSign_20 ?_
    obtain ⟨a2, e2, H⟩ := wp_b H
    refine rc_V0i dX12_mustSign_21 ml_X12_127 mc_X12_isGood (c_X12_isGood e2) rfl rfl rfl (ok_M rfl) rfl rfl rfl ?_
    refine ar_if_eq 31 dX12_mustSign_24 (by decide) (fun c2 => ?_) (fun c2 => ?_)
    · replace H := wp_t c2 H
      replace H := wp_s H
      exact ar_vret dX12_mustSign_31 rfl H
    · replace H := wp_f c2 H
      refine rl_a0 dX12_mustSign_27 ?_
      obtain ⟨a3, e3, H⟩ := wp_b H
      refine rc_V0v dX12_mustSign_28 ml_X12_137 mc_X12_goOn (c_X12_goOn e3) rfl rfl rfl (ok_M rfl) rfl rfl rfl ?_
      replace H := wp_s H
      exact ar_vret dX12_mustSign_31 rfl H
  · replace H := wp_f c1 H
    refine rl_a0 dX12_mustSign_7 ?_
    refine rl_i1 dX12_mustSign_8 ?_
    obtain ⟨a2, e2, H⟩ := wp_b H
    refine rc_V1i dX12_mustSign_9 ml_X12_131 mc_X12_isSign (c_X12_isSign e2) rfl rfl rfl (ok_M rfl) rfl rfl rfl ?_
    refine ar_if_ne 20 dX12_mustSign_12 (by decide) (fun c2 => ?_) (fun c2 => ?_)
    · replace H := wp_f c2 H
      refine rl_a0 dX12_mustSign_20 ?_
      obtain ⟨a3, e3, H⟩ := wp_b H
      refine rc_V0i dX12_mustSign_21 ml_X12_127 mc_X12_isGood (c_X12_isGood e3) rfl rfl rfl (ok_M rfl) rfl rfl rfl ?_
      refine ar_if_eq 31 dX12_mustSign_24 (by decide) (fun c3 => ?_) (fun c3 => ?_)
      · replace H := wp_t c3 H
        replace H := wp_s H
        exact ar_vret dX12_mustSign_31 rfl H
      · replace H := wp_f c3 H
        refine rl_a0 dX12_mustSign_27 ?_
        obtain ⟨a4, e4, H⟩ := wp_b H
        refine rc_V0v dX12_mustSign_28 ml_X12_137 mc_X12_goOn (c_X12_goOn e4) rfl rfl rfl (ok_M rfl) rfl rfl rfl ?_
        replace H := wp_s H
        exact ar_vret dX12_mustSign_31 rfl H
    · replace H := wp_t c2 H
      refine rl_a0 dX12_mustSign_15 ?_
      refine ar_iconst (iI (1)) dX12_mustSign_16 rfl ?_
      obtain ⟨a3, e3, H⟩ := wp_b H
      refine rc_V1v dX12_mustSign_17 ml_X12_134 mc_X12_wrong (c_X12_wrong e3) rfl rfl rfl (ok_M rfl) rfl rfl rfl ?_
      refine rl_a0 dX12_mustSign_20 ?_
      obtain ⟨a4, e4, H⟩ := wp_b H
      refine rc_V0i dX12_mustSign_21 ml_X12_127 mc_X12_isGood (c_X12_isGood e4) rfl rfl rfl (ok_M rfl) rfl rfl rfl ?_
      refine ar_if_eq 31 dX12_mustSign_24 (by decide) (fun c3 => ?_) (fun c3 => ?_)
      · replace H := wp_t c3 H
        replace H := wp_s H
        exact ar_vret dX12_mustSign_31 rfl H
      · replace H := wp_f c3 H
        refine rl_a0 dX12_mustSign_27 ?_
        obtain ⟨a5, e5, H⟩ := wp_b H
        refine rc_V0v dX12_mustSign_28 ml_X12_137 mc_X12_goOn (c_X12_goOn e5) rfl rfl rfl (ok_M rfl) rfl rfl rfl ?_
        replace H := wp_s H
        exact ar_vret dX12_mustSign_31 rfl H
noncomputable def f_X12_looks_20  (x1 : Int32) (x2 : Int32) (h : am_H) : Option (Int32 × am_H) :=
  (f_X12_isGood h).bind (fun a1 => if a1 = 0 then (some (((h.1 (.inl 0) 0 7), h))) else ((f_X12_isIn ((h.1 (.inl 0) 0 7).toInt64) x1.toInt64 x2.toInt64).bind (fun a2 => if a2 = 0 then ((f_X12_wrong (iI (2)) h).bind (fun a3 => some (((a3.1 (.inl 0) 0 7), a3)))) else (some (((h.1 (.inl 0) 0 7), h))))))
noncomputable def f_X12_looks (x1 : Int32) (x2 : Int32) (h : am_H) : Option (Int32 × am_H) :=
  (f_X12_isGood h).bind (fun a1 => if a1 = 0 then (f_X12_looks_20 x1 x2 h) else (if (h.1 (.inl 0) 0 6) = (iI (2)) then (f_X12_looks_20 x1 x2 h) else ((f_X12_wrong (iI (1)) h).bind (fun a2 => f_X12_looks_20 x1 x2 a2))))
theorem c_X12_looks_20  {x1 : Int32} {x2 : Int32} {h : am_H} {Q : Option am_v → am_H → Prop} (H : wp (f_X12_looks_20 x1 x2 h) (fun a => Q (some (am_i a.1)) a.2)) : am_V RX12 cX12_looks 3 (some .int) 1 25 0 0 none (am_Tm cX12_looks (some .int) Q) 0 0 20 [some (am_r (.inl 0) 0), some (am_i x1), some (am_i x2)] [] h := by
  unfold f_X12_looks_20 at H
  refine rl_a0 dX12_looks_20 ?_
  obtain ⟨a1, e1, H⟩ := wp_b H
  refine rc_V0i dX12_looks_21 ml_X12_127 mc_X12_isGood (c_X12_isGood e1) rfl rfl rfl (ok_M rfl) rfl rfl rfl ?_
  refine ar_if_eq 47 dX12_looks_24 (by decide) (fun c1 => ?_) (fun c1 => ?_)
  · replace H := wp_t c1 H
    refine rl_a0 dX12_looks_47 ?_
    refine ar_getI dX12_looks_48 fg_X12_111 rfl rfl (ok_M rfl) ?_
    replace H := wp_s H
    exact ar_iret dX12_looks_51 rfl rfl H
  · replace H := wp_f c1 H
    refine rl_a0 dX12_looks_27 ?_
    refine ar_getI dX12_looks_28 fg_X12_111 rfl rfl (ok_M rfl) ?_
    refine ar_i2l dX12_looks_31 ?_
    refine rl_i1 dX12_looks_32 ?_
    refine ar_i2l dX12_looks_33 ?_
    refine rl_i2 dX12_looks_34 ?_
    refine ar_i2l dX12_looks_35 ?_
    obtain ⟨a2, e2, H⟩ := wp_b H
    refine rc_S3i dX12_looks_36 ml_X12_90 mc_X12_isIn (c_X12_isIn e2) rfl rfl rfl ?_
    refine ar_if_ne 47 dX12_looks_39 (by decide) (fun c2 => ?_) (fun c2 => ?_)
    · replace H := wp_f c2 H
      refine rl_a0 dX12_looks_47 ?_
      refine ar_getI dX12_looks_48 fg_X12_111 rfl rfl (ok_M rfl) ?_
      replace H := wp_s H
      exact ar_iret dX12_looks_51 rfl rfl H
    · replace H := wp_t c2 H
      refine rl_a0 dX12_looks_42 ?_
      refine ar_iconst (iI (2)) dX12_looks_43 rfl ?_
      obtain ⟨a3, e3, H⟩ := wp_b H
      refine rc_V1v dX12_looks_44 ml_X12_134 mc_X12_wrong (c_X12_wrong e3) rfl rfl rfl (ok_M rfl) rfl rfl rfl ?_
      refine rl_a0 dX12_looks_47 ?_
      refine ar_getI dX12_looks_48 fg_X12_111 rfl rfl (ok_M rfl) ?_
      replace H := wp_s H
      exact ar_iret dX12_looks_51 rfl rfl H
theorem c_X12_looks {x1 : Int32} {x2 : Int32} {h : am_H} {a : Int32 × am_H} (e : f_X12_looks x1 x2 h = some a) : am_Mi yX12_looks cX12_looks 3 (some .int) 1 25 [am_r (.inl 0) 0, am_i x1, am_i x2] h a.1 a.2 := by
  refine am_M.ofi (A := [some (am_r (.inl 0) 0), some (am_i x1), some (am_i x2)]) (by decide +kernel) rfl (ble rfl) (fun Q hQ => ?_)
  have H : wp (f_X12_looks x1 x2 h) (fun a => Q (some (am_i a.1)) a.2) := ⟨a, e, hQ⟩
  unfold f_X12_looks at H
  refine rl_a0 dX12_looks_0 ?_
  obtain ⟨a1, e1, H⟩ := wp_b H
  refine rc_V0i dX12_looks_1 ml_X12_127 mc_X12_isGood (c_X12_isGood e1) rfl rfl rfl (ok_M rfl) rfl rfl rfl ?_
  refine ar_if_eq 20 dX12_looks_4 (by decide) (fun c1 => ?_) (fun c1 => ?_)
  · replace H := wp_t c1 H
    exact am_V.wk (am_s (am_s (am_s am_0))) (c_X12_looks_20  H)
  · replace H := wp_f c1 H
    refine rl_a0 dX12_looks_7 ?_
    refine ar_getI dX12_looks_8 fg_X12_114 rfl rfl (ok_M rfl) ?_
    refine ar_iconst (iI (2)) dX12_looks_11 rfl ?_
    refine ar_ic_eq 20 dX12_looks_12 (by decide) (fun c2 => ?_) (fun c2 => ?_)
    · replace H := wp_t c2 H
      exact am_V.wk (am_s (am_s (am_s am_0))) (c_X12_looks_20  H)
    · replace H := wp_f c2 H
      refine rl_a0 dX12_looks_15 ?_
      refine ar_iconst (iI (1)) dX12_looks_16 rfl ?_
      obtain ⟨a2, e2, H⟩ := wp_b H
      refine rc_V1v dX12_looks_17 ml_X12_134 mc_X12_wrong (c_X12_wrong e2) rfl rfl rfl (ok_M rfl) rfl rfl rfl ?_
      exact am_V.wk (am_s (am_s (am_s am_0))) (c_X12_looks_20  H)
noncomputable def f_X12_number (x1 : Int32) (x2 : Int32) (h : am_H) : Option (Int32 × am_H) :=
  (f_X12_looks x1 x2 h).bind (fun a1 => (f_X12_isGood a1.2).bind (fun a2 => if a2 = 0 then (some ((a1.1, a1.2))) else ((f_X12_goOn a1.2).bind (fun a3 => some ((a1.1, a3))))))
theorem c_X12_number {x1 : Int32} {x2 : Int32} {h : am_H} {a : Int32 × am_H} (e : f_X12_number x1 x2 h = some a) : am_Mi yX12_number cX12_number 4 (some .int) 2 47 [am_r (.inl 0) 0, am_i x1, am_i x2] h a.1 a.2 := by
  refine am_M.ofi (A := [some (am_r (.inl 0) 0), some (am_i x1), some (am_i x2), none]) (by decide +kernel) rfl (ble rfl) (fun Q hQ => ?_)
  have H : wp (f_X12_number x1 x2 h) (fun a => Q (some (am_i a.1)) a.2) := ⟨a, e, hQ⟩
  unfold f_X12_number at H
  refine rl_a0 dX12_number_0 ?_
  refine rl_i1 dX12_number_1 ?_
  refine rl_i2 dX12_number_2 ?_
  obtain ⟨a1, e1, H⟩ := wp_b H
  refine rc_V2i dX12_number_3 ml_X12_144 mc_X12_looks (c_X12_looks e1) rfl rfl rfl (ok_M rfl) rfl rfl rfl ?_
  refine rs_i3 dX12_number_6 rfl trivial ?_
  refine rl_a0 dX12_number_7 ?_
  obtain ⟨a2, e2, H⟩ := wp_b H
  refine rc_V0i dX12_number_8 ml_X12_127 mc_X12_isGood (c_X12_isGood e2) rfl rfl rfl (ok_M rfl) rfl rfl rfl ?_
  refine ar_if_eq 18 dX12_number_11 (by decide) (fun c1 => ?_) (fun c1 => ?_)
  · replace H := wp_t c1 H
    refine rl_i3 dX12_number_18 ?_
    replace H := wp_s H
    exact ar_iret dX12_number_19 rfl rfl H
  · replace H := wp_f c1 H
    refine rl_a0 dX12_number_14 ?_
    obtain ⟨a3, e3, H⟩ := wp_b H
    refine rc_V0v dX12_number_15 ml_X12_137 mc_X12_goOn (c_X12_goOn e3) rfl rfl rfl (ok_M rfl) rfl rfl rfl ?_
    refine rl_i3 dX12_number_18 ?_
    replace H := wp_s H
    exact ar_iret dX12_number_19 rfl rfl H
noncomputable def f_X12_beginsText  (h : am_H) : Option am_H :=
  am_lt (am_u h (.inl 0) 0 3 (h.1 (.inl 0) 0 2)) (fun h1 => am_lt (am_u h1 (.inl 0) 0 2 (iI (0))) (fun h2 => am_lt (am_u h2 (.inl 0) 0 4 (iI (0))) (fun h3 => am_lt (am_u h3 (.inl 0) 0 8 (iI (0))) (fun h4 => am_lt (am_u h4 (.inl 0) 0 9 (iI (-1))) (fun h5 => (f_X12_goOn h5).bind (fun a1 => some (a1)))))))
theorem c_X12_beginsText  {h : am_H} {a : am_H} (e : f_X12_beginsText h = some a) : am_Mv yX12_beginsText cX12_beginsText 1 (none) 2 43 [am_r (.inl 0) 0] h a := by
  refine am_M.ofv (A := [some (am_r (.inl 0) 0)]) (by decide +kernel) rfl (ble rfl) (fun Q hQ => ?_)
  have H : wp (f_X12_beginsText h) (fun a => Q none a) := ⟨a, e, hQ⟩
  unfold f_X12_beginsText at H
  refine rl_a0 dX12_beginsText_0 ?_
  refine rl_a0 dX12_beginsText_1 ?_
  refine ar_getI dX12_beginsText_2 fg_X12_79 rfl rfl (ok_M rfl) ?_
  refine ar_putI dX12_beginsText_5 fg_X12_97 rfl rfl (ok_M rfl) rfl rfl ?_
  replace H := wp_l H
  generalize am_u h (.inl 0) 0 3 (h.1 (.inl 0) 0 2) = h1 at H ⊢
  refine rl_a0 dX12_beginsText_8 ?_
  refine ar_iconst (iI (0)) dX12_beginsText_9 rfl ?_
  refine ar_putI dX12_beginsText_10 fg_X12_79 rfl rfl (ok_M rfl) rfl rfl ?_
  replace H := wp_l H
  generalize am_u h1 (.inl 0) 0 2 (iI (0)) = h2 at H ⊢
  refine rl_a0 dX12_beginsText_13 ?_
  refine ar_iconst (iI (0)) dX12_beginsText_14 rfl ?_
  refine ar_putI dX12_beginsText_15 fg_X12_94 rfl rfl (ok_M rfl) rfl rfl ?_
  replace H := wp_l H
  generalize am_u h2 (.inl 0) 0 4 (iI (0)) = h3 at H ⊢
  refine rl_a0 dX12_beginsText_18 ?_
  refine ar_iconst (iI (0)) dX12_beginsText_19 rfl ?_
  refine ar_putI dX12_beginsText_20 fg_X12_124 rfl rfl (ok_M rfl) rfl rfl ?_
  replace H := wp_l H
  generalize am_u h3 (.inl 0) 0 8 (iI (0)) = h4 at H ⊢
  refine rl_a0 dX12_beginsText_23 ?_
  refine ar_iconst (iI (-1)) dX12_beginsText_24 rfl ?_
  refine ar_putI dX12_beginsText_25 fg_X12_13 rfl rfl (ok_M rfl) rfl rfl ?_
  replace H := wp_l H
  generalize am_u h4 (.inl 0) 0 9 (iI (-1)) = h5 at H ⊢
  refine rl_a0 dX12_beginsText_28 ?_
  obtain ⟨a1, e1, H⟩ := wp_b H
  refine rc_V0v dX12_beginsText_29 ml_X12_137 mc_X12_goOn (c_X12_goOn e1) rfl rfl rfl (ok_M rfl) rfl rfl rfl ?_
  replace H := wp_s H
  exact ar_vret dX12_beginsText_32 rfl H
noncomputable def f_X12_endsText  (h : am_H) : Option (Int32 × am_H) :=
  am_lt (am_u h (.inl 0) 0 10 (h.1 (.inl 0) 0 8)) (fun h1 => am_lt (am_u h1 (.inl 0) 0 11 (h1.1 (.inl 0) 0 9)) (fun h2 => if (h2.1 (.inl 0) 0 8) = 0 then ((f_X12_goes (iI (1)) h2).bind (fun a1 => if zb a1.1 then (some ((a1.1, a1.2))) else none)) else ((f_X12_goes (iI (0)) h2).bind (fun a1 => if zb a1.1 then (some ((a1.1, a1.2))) else none))))
theorem c_X12_endsText  {h : am_H} {a : Int32 × am_H} (e : f_X12_endsText h = some a) : am_Mi yX12_endsText cX12_endsText 1 (some .boolean) 2 41 [am_r (.inl 0) 0] h a.1 a.2 := by
  refine am_M.ofi (A := [some (am_r (.inl 0) 0)]) (by decide +kernel) rfl (ble rfl) (fun Q hQ => ?_)
  have H : wp (f_X12_endsText h) (fun a => Q (some (am_i a.1)) a.2) := ⟨a, e, hQ⟩
  unfold f_X12_endsText at H
  refine rl_a0 dX12_endsText_0 ?_
  refine rl_a0 dX12_endsText_1 ?_
  refine ar_getI dX12_endsText_2 fg_X12_124 rfl rfl (ok_M rfl) ?_
  refine ar_putI dX12_endsText_5 fg_X12_148 rfl rfl (ok_M rfl) rfl rfl ?_
  replace H := wp_l H
  generalize am_u h (.inl 0) 0 10 (h.1 (.inl 0) 0 8) = h1 at H ⊢
  refine rl_a0 dX12_endsText_8 ?_
  refine rl_a0 dX12_endsText_9 ?_
  refine ar_getI dX12_endsText_10 fg_X12_13 rfl rfl (ok_M rfl) ?_
  refine ar_putI dX12_endsText_13 fg_X12_17 rfl rfl (ok_M rfl) rfl rfl ?_
  replace H := wp_l H
  generalize am_u h1 (.inl 0) 0 11 (h1.1 (.inl 0) 0 9) = h2 at H ⊢
  refine rl_a0 dX12_endsText_16 ?_
  refine rl_a0 dX12_endsText_17 ?_
  refine ar_getI dX12_endsText_18 fg_X12_124 rfl rfl (ok_M rfl) ?_
  refine ar_if_ne 28 dX12_endsText_21 (by decide) (fun c1 => ?_) (fun c1 => ?_)
  · replace H := wp_f c1 H
    refine ar_iconst (iI (0)) dX12_endsText_28 rfl ?_
    obtain ⟨a1, e1, H⟩ := wp_b H
    refine rc_V1i dX12_endsText_29 ml_X12_82 mc_X12_goes (c_X12_goes e1) rfl rfl rfl (ok_M rfl) rfl rfl rfl ?_
    obtain ⟨b1, H⟩ := wp_g H
    replace H := wp_s H
    exact ar_iret dX12_endsText_32 rfl (zb_n b1) H
  · replace H := wp_t c1 H
    refine ar_iconst (iI (1)) dX12_endsText_24 rfl ?_
    refine ar_goto 29 dX12_endsText_25 (by decide) ?_
    obtain ⟨a1, e1, H⟩ := wp_b H
    refine rc_V1i dX12_endsText_29 ml_X12_82 mc_X12_goes (c_X12_goes e1) rfl rfl rfl (ok_M rfl) rfl rfl rfl ?_
    obtain ⟨b1, H⟩ := wp_g H
    replace H := wp_s H
    exact ar_iret dX12_endsText_32 rfl (zb_n b1) H
noncomputable def f_X12_errorCode  (h : am_H) : Option (Int32 × am_H) :=
  am_lt (am_u h (.inl 0) 0 0 (iI (0))) (fun h1 => some (((h1.1 (.inl 0) 0 10), h1)))
theorem c_X12_errorCode  {h : am_H} {a : Int32 × am_H} (e : f_X12_errorCode h = some a) : am_Mi yX12_errorCode cX12_errorCode 1 (some .int) 0 0 [am_r (.inl 0) 0] h a.1 a.2 := by
  refine am_M.ofi (A := [some (am_r (.inl 0) 0)]) (by decide +kernel) rfl (ble rfl) (fun Q hQ => ?_)
  have H : wp (f_X12_errorCode h) (fun a => Q (some (am_i a.1)) a.2) := ⟨a, e, hQ⟩
  unfold f_X12_errorCode at H
  refine rl_a0 dX12_errorCode_0 ?_
  refine ar_iconst (iI (0)) dX12_errorCode_1 rfl ?_
  refine ar_putI dX12_errorCode_2 fg_X12_72 rfl rfl (ok_M rfl) rfl rfl ?_
  replace H := wp_l H
  generalize am_u h (.inl 0) 0 0 (iI (0)) = h1 at H ⊢
  refine rl_a0 dX12_errorCode_5 ?_
  refine ar_getI dX12_errorCode_6 fg_X12_148 rfl rfl (ok_M rfl) ?_
  replace H := wp_s H
  exact ar_iret dX12_errorCode_9 rfl rfl H
noncomputable def f_X12_errorPosition  (h : am_H) : Option (Int32 × am_H) :=
  am_lt (am_u h (.inl 0) 0 0 (iI (0))) (fun h1 => some (((h1.1 (.inl 0) 0 11), h1)))
theorem c_X12_errorPosition  {h : am_H} {a : Int32 × am_H} (e : f_X12_errorPosition h = some a) : am_Mi yX12_errorPosition cX12_errorPosition 1 (some .int) 0 0 [am_r (.inl 0) 0] h a.1 a.2 := by
  refine am_M.ofi (A := [some (am_r (.inl 0) 0)]) (by decide +kernel) rfl (ble rfl) (fun Q hQ => ?_)
  have H : wp (f_X12_errorPosition h) (fun a => Q (some (am_i a.1)) a.2) := ⟨a, e, hQ⟩
  unfold f_X12_errorPosition at H
  refine rl_a0 dX12_errorPosition_0 ?_
  refine ar_iconst (iI (0)) dX12_errorPosition_1 rfl ?_
  refine ar_putI dX12_errorPosition_2 fg_X12_72 rfl rfl (ok_M rfl) rfl rfl ?_
  replace H := wp_l H
  generalize am_u h (.inl 0) 0 0 (iI (0)) = h1 at H ⊢
  refine rl_a0 dX12_errorPosition_5 ?_
  refine ar_getI dX12_errorPosition_6 fg_X12_17 rfl rfl (ok_M rfl) ?_
  replace H := wp_s H
  exact ar_iret dX12_errorPosition_9 rfl rfl H
noncomputable def s_X12_copiesRow (o0 n0 : Nat) (o2 n2 : Nat) : am_S am_H → Option (am_S am_H ⊕ am_H) := fun s => match s with
  | (3, [x1, x3, x4], [], [], h) => if (iI (408)) ≤ x4 then (some (.inr (h))) else (if ib (x1 + x4) n0 then (if ib (x3 + x4) n2 then (am_lt (am_u h (.inl 0) o2 (((x3 + x4)).toNatClampNeg) (h.1 (.inl 0) o0 ((x1 + x4)).toNatClampNeg)) (fun h1 => some (.inl (3, [x1, x3, (x4 + 1)], [], [], h1)))) else none) else none)
  | _ => none
noncomputable def f_X12_copiesRow_3 (o0 n0 : Nat) (o2 n2 : Nat) (x1 : Int32) (x3 : Int32) (x4 : Int32) (h : am_H) : Option am_H := lp (s_X12_copiesRow o0 n0 o2 n2) (3, [x1, x3, x4], [], [], h)
theorem e_X12_copiesRow_3 (o0 n0 : Nat) (o2 n2 : Nat) (x1 : Int32) (x3 : Int32) (x4 : Int32) (h : am_H) : f_X12_copiesRow_3 o0 n0 o2 n2 x1 x3 x4 h = (if (iI (408)) ≤ x4 then (some (h)) else (if ib (x1 + x4) n0 then (if ib (x3 + x4) n2 then (am_lt (am_u h (.inl 0) o2 (((x3 + x4)).toNatClampNeg) (h.1 (.inl 0) o0 ((x1 + x4)).toNatClampNeg)) (fun h1 => f_X12_copiesRow_3 o0 n0 o2 n2 x1 x3 (x4 + 1) h1)) else none) else none)) := by
  show lp _ _ = _
  rw [lp_eq, s_X12_copiesRow]
  simp only [lpk_i, lpk_b, lpk_l, lpk_n, lpk_j, lpk_r] <;> rfl
noncomputable def f_X12_copiesRow (o0 n0 : Nat) (x1 : Int32) (o2 n2 : Nat) (x3 : Int32) (h : am_H) : Option am_H :=
  f_X12_copiesRow_3 o0 n0 o2 n2 x1 x3 (iI (0)) h
theorem c_X12_copiesRow_L {o0 n0 : Nat} (hs0 : am_shp (.inl 0) o0 = .inr (0, n0)) (hv0 : am_ok (.inl 0) o0) {o2 n2 : Nat} (hs2 : am_shp (.inl 0) o2 = .inr (0, n2)) (hv2 : am_ok (.inl 0) o2) {Q : Option am_v → am_H → Prop} : ∀ s, wp (lp (s_X12_copiesRow o0 n0 o2 n2) s) (fun a => Q none a) → ((∀ x1 x3 x4 h, s = (3, [x1, x3, x4], [], [], h) → am_V RX12 cX12_copiesRow 5 (none) 0 0 0 0 none (am_Tm cX12_copiesRow (none) Q) 0 0 3 [some (am_r (.inl 0) o0), some (am_i x1), some (am_r (.inl 0) o2), some (am_i x3), some (am_i x4)] [] h)) := by
  refine lp_ind _ _ (fun s H => fun x1 x3 x4 h e => ?_)
  · subst e
    rw [s_X12_copiesRow] at H
    refine rl_i4 dX12_copiesRow_3 ?_
    refine ar_sipush (iI (408)) dX12_copiesRow_5 rfl ?_
    refine ar_ic_ge 29 dX12_copiesRow_8 (by decide) (fun c1 => ?_) (fun c1 => ?_)
    · replace H := wp_t c1 H
      replace H := lp_re H
      exact ar_vret dX12_copiesRow_29 rfl H
    · replace H := wp_f c1 H
      refine rl_a2 dX12_copiesRow_11 ?_
      refine rl_i3 dX12_copiesRow_12 ?_
      refine rl_i4 dX12_copiesRow_13 ?_
      refine ar_iadd dX12_copiesRow_15 ?_
      refine rl_a0 dX12_copiesRow_16 ?_
      refine rl_i1 dX12_copiesRow_17 ?_
      refine rl_i4 dX12_copiesRow_18 ?_
      refine ar_iadd dX12_copiesRow_20 ?_
      obtain ⟨b1, H⟩ := wp_g H
      refine ar_iald dX12_copiesRow_21 hs0 hv0 (ib_in b1) ?_
      obtain ⟨b2, H⟩ := wp_g H
      refine ar_iast dX12_copiesRow_22 hs2 hv2 (ib_in b2) ?_
      replace H := wp_l H
      generalize am_u h (.inl 0) o2 (((x3 + x4)).toNatClampNeg) (h.1 (.inl 0) o0 ((x1 + x4)).toNatClampNeg) = h1 at H ⊢
      refine rn_1_4 dX12_copiesRow_23 rfl trivial ?_
      refine ar_goto 3 dX12_copiesRow_26 (by decide) ?_
      exact am_V.wk (am_s (am_s (am_s (am_s (am_s am_0))))) ((lp_in H) _ _ _ _ rfl)
theorem c_X12_copiesRow {o0 n0 : Nat} (hs0 : am_shp (.inl 0) o0 = .inr (0, n0)) (hv0 : am_ok (.inl 0) o0) {x1 : Int32} {o2 n2 : Nat} (hs2 : am_shp (.inl 0) o2 = .inr (0, n2)) (hv2 : am_ok (.inl 0) o2) {x3 : Int32} {h : am_H} {a : am_H} (e : f_X12_copiesRow o0 n0 x1 o2 n2 x3 h = some a) : am_Mv yX12_copiesRow cX12_copiesRow 5 (none) 0 0 [am_r (.inl 0) o0, am_i x1, am_r (.inl 0) o2, am_i x3] h a := by
  refine am_M.ofv (A := [some (am_r (.inl 0) o0), some (am_i x1), some (am_r (.inl 0) o2), some (am_i x3), none]) (by decide +kernel) rfl (ble rfl) (fun Q hQ => ?_)
  have H : wp (f_X12_copiesRow o0 n0 x1 o2 n2 x3 h) (fun a => Q none a) := ⟨a, e, hQ⟩
  unfold f_X12_copiesRow at H
  refine ar_iconst (iI (0)) dX12_copiesRow_0 rfl ?_
  refine rs_i4 dX12_copiesRow_1 rfl trivial ?_
  exact am_V.wk (am_s (am_s (am_s (am_s (am_s am_0))))) ((c_X12_copiesRow_L hs0 hv0 hs2 hv2 _ H) _ _ _ _ rfl)
noncomputable def s_X12_copiesNames (o0 n0 : Nat) (o1 n1 : Nat) : am_S am_H → Option (am_S am_H ⊕ am_H) := fun s => match s with
  | (2, [x2], [], [], h) => if (iI (6)) ≤ x2 then (some (.inr (h))) else (if ib x2 n0 then (if ib x2 n1 then (am_lt (am_ul h (.inl 0) o1 x2.toNatClampNeg (h.2.1 (.inl 0) o0 x2.toNatClampNeg)) (fun h1 => some (.inl (2, [(x2 + 1)], [], [], h1)))) else none) else none)
  | _ => none
noncomputable def f_X12_copiesNames_2 (o0 n0 : Nat) (o1 n1 : Nat) (x2 : Int32) (h : am_H) : Option am_H := lp (s_X12_copiesNames o0 n0 o1 n1) (2, [x2], [], [], h)
theorem e_X12_copiesNames_2 (o0 n0 : Nat) (o1 n1 : Nat) (x2 : Int32) (h : am_H) : f_X12_copiesNames_2 o0 n0 o1 n1 x2 h = (if (iI (6)) ≤ x2 then (some (h)) else (if ib x2 n0 then (if ib x2 n1 then (am_lt (am_ul h (.inl 0) o1 x2.toNatClampNeg (h.2.1 (.inl 0) o0 x2.toNatClampNeg)) (fun h1 => f_X12_copiesNames_2 o0 n0 o1 n1 (x2 + 1) h1)) else none) else none)) := by
  show lp _ _ = _
  rw [lp_eq, s_X12_copiesNames]
  simp only [lpk_i, lpk_b, lpk_l, lpk_n, lpk_j, lpk_r] <;> rfl
noncomputable def f_X12_copiesNames (o0 n0 : Nat) (o1 n1 : Nat) (h : am_H) : Option am_H :=
  f_X12_copiesNames_2 o0 n0 o1 n1 (iI (0)) h
theorem c_X12_copiesNames_L {o0 n0 : Nat} (hs0 : am_shp (.inl 0) o0 = .inr (3, n0)) (hv0 : am_ok (.inl 0) o0) {o1 n1 : Nat} (hs1 : am_shp (.inl 0) o1 = .inr (3, n1)) (hv1 : am_ok (.inl 0) o1) {Q : Option am_v → am_H → Prop} : ∀ s, wp (lp (s_X12_copiesNames o0 n0 o1 n1) s) (fun a => Q none a) → ((∀ x2 h, s = (2, [x2], [], [], h) → am_V RX12 cX12_copiesNames 3 (none) 0 0 0 0 none (am_Tm cX12_copiesNames (none) Q) 0 0 2 [some (am_r (.inl 0) o0), some (am_r (.inl 0) o1), some (am_i x2)] [] h)) := by
  refine lp_ind _ _ (fun s H => fun x2 h e => ?_)
  · subst e
    rw [s_X12_copiesNames] at H
    refine rl_i2 dX12_copiesNames_2 ?_
    refine ar_bipush (iI (6)) dX12_copiesNames_3 rfl ?_
    refine ar_ic_ge 20 dX12_copiesNames_5 (by decide) (fun c1 => ?_) (fun c1 => ?_)
    · replace H := wp_t c1 H
      replace H := lp_re H
      exact ar_vret dX12_copiesNames_20 rfl H
    · replace H := wp_f c1 H
      refine rl_a1 dX12_copiesNames_8 ?_
      refine rl_i2 dX12_copiesNames_9 ?_
      refine rl_a0 dX12_copiesNames_10 ?_
      refine rl_i2 dX12_copiesNames_11 ?_
      obtain ⟨b1, H⟩ := wp_g H
      refine ar_lald dX12_copiesNames_12 hs0 hv0 (ib_in b1) ?_
      obtain ⟨b2, H⟩ := wp_g H
      refine ar_last dX12_copiesNames_13 hs1 hv1 (ib_in b2) ?_
      replace H := wp_l H
      generalize am_ul h (.inl 0) o1 x2.toNatClampNeg (h.2.1 (.inl 0) o0 x2.toNatClampNeg) = h1 at H ⊢
      refine rn_1_2 dX12_copiesNames_14 rfl trivial ?_
      refine ar_goto 2 dX12_copiesNames_17 (by decide) ?_
      exact am_V.wk (am_s (am_s (am_s am_0))) ((lp_in H) _ _ rfl)
theorem c_X12_copiesNames {o0 n0 : Nat} (hs0 : am_shp (.inl 0) o0 = .inr (3, n0)) (hv0 : am_ok (.inl 0) o0) {o1 n1 : Nat} (hs1 : am_shp (.inl 0) o1 = .inr (3, n1)) (hv1 : am_ok (.inl 0) o1) {h : am_H} {a : am_H} (e : f_X12_copiesNames o0 n0 o1 n1 h = some a) : am_Mv yX12_copiesNames cX12_copiesNames 3 (none) 0 0 [am_r (.inl 0) o0, am_r (.inl 0) o1] h a := by
  refine am_M.ofv (A := [some (am_r (.inl 0) o0), some (am_r (.inl 0) o1), none]) (by decide +kernel) rfl (ble rfl) (fun Q hQ => ?_)
  have H : wp (f_X12_copiesNames o0 n0 o1 n1 h) (fun a => Q none a) := ⟨a, e, hQ⟩
  unfold f_X12_copiesNames at H
  refine ar_iconst (iI (0)) dX12_copiesNames_0 rfl ?_
  refine rs_i2 dX12_copiesNames_1 rfl trivial ?_
  exact am_V.wk (am_s (am_s (am_s am_0))) ((c_X12_copiesNames_L hs0 hv0 hs1 hv1 _ H) _ _ rfl)
noncomputable def s_X12_clears  : am_S am_H → Option (am_S am_H ⊕ am_H) := fun s => match s with
  | (2, [x1], [], [], h) => if (iI (408)) ≤ x1 then (some (.inl (24, [(iI (0))], [], [], h))) else (if ib x1 408 then (am_lt (am_u h (.inl 0) 2 x1.toNatClampNeg (iI (0))) (fun h1 => some (.inl (2, [(x1 + 1)], [], [], h1)))) else none)
  | (24, [x1], [], [], h) => if (iI (6)) ≤ x1 then (some (.inl (45, [(iI (0))], [], [], h))) else (if ib x1 6 then (am_lt (am_ul h (.inl 0) 7 x1.toNatClampNeg (0 : Int64)) (fun h1 => some (.inl (24, [(x1 + 1)], [], [], h1)))) else none)
  | (45, [x1], [], [], h) => if (iI (26)) ≤ x1 then (if ib (iI (3)) 408 then (am_lt (am_u h (.inl 0) 2 (((iI (3))).toNatClampNeg) (iI (50))) (fun h1 => if ib (iI (4)) 408 then (am_lt (am_u h1 (.inl 0) 2 (((iI (4))).toNatClampNeg) (iI (1))) (fun h2 => if ib (iI (5)) 408 then (am_lt (am_u h2 (.inl 0) 2 (((iI (5))).toNatClampNeg) (iI (1))) (fun h3 => some (.inr (h3)))) else none)) else none)) else none) else (if ib ((iI (104)) + x1) 408 then (am_lt (am_u h (.inl 0) 2 ((((iI (104)) + x1)).toNatClampNeg) (iI (4))) (fun h1 => some (.inl (45, [(x1 + 1)], [], [], h1)))) else none)
  | _ => none
noncomputable def f_X12_clears_2  (x1 : Int32) (h : am_H) : Option am_H := lp (s_X12_clears) (2, [x1], [], [], h)
noncomputable def f_X12_clears_24  (x1 : Int32) (h : am_H) : Option am_H := lp (s_X12_clears) (24, [x1], [], [], h)
noncomputable def f_X12_clears_45  (x1 : Int32) (h : am_H) : Option am_H := lp (s_X12_clears) (45, [x1], [], [], h)
theorem e_X12_clears_2  (x1 : Int32) (h : am_H) : f_X12_clears_2 x1 h = (if (iI (408)) ≤ x1 then (f_X12_clears_24 (iI (0)) h) else (if ib x1 408 then (am_lt (am_u h (.inl 0) 2 x1.toNatClampNeg (iI (0))) (fun h1 => f_X12_clears_2 (x1 + 1) h1)) else none)) := by
  show lp _ _ = _
  rw [lp_eq, s_X12_clears]
  simp only [lpk_i, lpk_b, lpk_l, lpk_n, lpk_j, lpk_r] <;> rfl
theorem e_X12_clears_24  (x1 : Int32) (h : am_H) : f_X12_clears_24 x1 h = (if (iI (6)) ≤ x1 then (f_X12_clears_45 (iI (0)) h) else (if ib x1 6 then (am_lt (am_ul h (.inl 0) 7 x1.toNatClampNeg (0 : Int64)) (fun h1 => f_X12_clears_24 (x1 + 1) h1)) else none)) := by
  show lp _ _ = _
  rw [lp_eq, s_X12_clears]
  simp only [lpk_i, lpk_b, lpk_l, lpk_n, lpk_j, lpk_r] <;> rfl
theorem e_X12_clears_45  (x1 : Int32) (h : am_H) : f_X12_clears_45 x1 h = (if (iI (26)) ≤ x1 then (if ib (iI (3)) 408 then (am_lt (am_u h (.inl 0) 2 (((iI (3))).toNatClampNeg) (iI (50))) (fun h1 => if ib (iI (4)) 408 then (am_lt (am_u h1 (.inl 0) 2 (((iI (4))).toNatClampNeg) (iI (1))) (fun h2 => if ib (iI (5)) 408 then (am_lt (am_u h2 (.inl 0) 2 (((iI (5))).toNatClampNeg) (iI (1))) (fun h3 => some (h3))) else none)) else none)) else none) else (if ib ((iI (104)) + x1) 408 then (am_lt (am_u h (.inl 0) 2 ((((iI (104)) + x1)).toNatClampNeg) (iI (4))) (fun h1 => f_X12_clears_45 (x1 + 1) h1)) else none)) := by
  show lp _ _ = _
  rw [lp_eq, s_X12_clears]
  simp only [lpk_i, lpk_b, lpk_l, lpk_n, lpk_j, lpk_r] <;> rfl
noncomputable def f_X12_clears  (h : am_H) : Option am_H :=
  f_X12_clears_2 (iI (0)) h
theorem c_X12_clears_L  {Q : Option am_v → am_H → Prop} : ∀ s, wp (lp (s_X12_clears) s) (fun a => Q none a) → ((∀ x1 h, s = (2, [x1], [], [], h) → am_V RX12 cX12_clears 2 (none) 0 0 0 0 none (am_Tm cX12_clears (none) Q) 0 0 2 [some (am_r (.inl 0) 0), some (am_i x1)] [] h) ∧ (∀ x1 h, s = (24, [x1], [], [], h) → am_V RX12 cX12_clears 2 (none) 0 0 0 0 none (am_Tm cX12_clears (none) Q) 0 0 24 [some (am_r (.inl 0) 0), some (am_i x1)] [] h) ∧ (∀ x1 h, s = (45, [x1], [], [], h) → am_V RX12 cX12_clears 2 (none) 0 0 0 0 none (am_Tm cX12_clears (none) Q) 0 0 45 [some (am_r (.inl 0) 0), some (am_i x1)] [] h)) := by
  refine lp_ind _ _ (fun s H => ⟨fun x1 h e => ?_, fun x1 h e => ?_, fun x1 h e => ?_⟩)
  · subst e
    rw [s_X12_clears] at H
    refine rl_i1 dX12_clears_2 ?_
    refine ar_sipush (iI (408)) dX12_clears_3 rfl ?_
    refine ar_ic_ge 22 dX12_clears_6 (by decide) (fun c1 => ?_) (fun c1 => ?_)
    · replace H := wp_t c1 H
      refine ar_iconst (iI (0)) dX12_clears_22 rfl ?_
      refine rs_i1 dX12_clears_23 rfl trivial ?_
      exact am_V.wk (am_s (am_s am_0)) ((lp_in H).2.1 _ _ rfl)
    · replace H := wp_f c1 H
      refine rl_a0 dX12_clears_9 ?_
      refine rg_R (.inl 0) 2 dX12_clears_10 fg_X12_20 rfl rfl rfl (ok_M rfl) ?_
      refine rl_i1 dX12_clears_13 ?_
      refine ar_iconst (iI (0)) dX12_clears_14 rfl ?_
      obtain ⟨b1, H⟩ := wp_g H
      refine ar_iast dX12_clears_15 rfl (ok_M rfl) (ib_in b1) ?_
      replace H := wp_l H
      generalize am_u h (.inl 0) 2 x1.toNatClampNeg (iI (0)) = h1 at H ⊢
      refine rn_1_1 dX12_clears_16 rfl trivial ?_
      refine ar_goto 2 dX12_clears_19 (by decide) ?_
      exact am_V.wk (am_s (am_s am_0)) ((lp_in H).1 _ _ rfl)
  · subst e
    rw [s_X12_clears] at H
    refine rl_i1 dX12_clears_24 ?_
    refine ar_bipush (iI (6)) dX12_clears_25 rfl ?_
    refine ar_ic_ge 43 dX12_clears_27 (by decide) (fun c1 => ?_) (fun c1 => ?_)
    · replace H := wp_t c1 H
      refine ar_iconst (iI (0)) dX12_clears_43 rfl ?_
      refine rs_i1 dX12_clears_44 rfl trivial ?_
      exact am_V.wk (am_s (am_s am_0)) ((lp_in H).2.2 _ _ rfl)
    · replace H := wp_f c1 H
      refine rl_a0 dX12_clears_30 ?_
      refine rg_R (.inl 0) 7 dX12_clears_31 fg_X12_35 rfl rfl rfl (ok_M rfl) ?_
      refine rl_i1 dX12_clears_34 ?_
      refine ar_lconst (0 : Int64) dX12_clears_35 rfl ?_
      obtain ⟨b1, H⟩ := wp_g H
      refine ar_last dX12_clears_36 rfl (ok_M rfl) (ib_in b1) ?_
      replace H := wp_l H
      generalize am_ul h (.inl 0) 7 x1.toNatClampNeg (0 : Int64) = h1 at H ⊢
      refine rn_1_1 dX12_clears_37 rfl trivial ?_
      refine ar_goto 24 dX12_clears_40 (by decide) ?_
      exact am_V.wk (am_s (am_s am_0)) ((lp_in H).2.1 _ _ rfl)
  · subst e
    rw [s_X12_clears] at H
    refine rl_i1 dX12_clears_45 ?_
    refine ar_bipush (iI (26)) dX12_clears_46 rfl ?_
    refine ar_ic_ge 67 dX12_clears_48 (by decide) (fun c1 => ?_) (fun c1 => ?_)
    · replace H := wp_t c1 H
      refine rl_a0 dX12_clears_67 ?_
      refine rg_R (.inl 0) 2 dX12_clears_68 fg_X12_20 rfl rfl rfl (ok_M rfl) ?_
      refine ar_iconst (iI (3)) dX12_clears_71 rfl ?_
      refine ar_bipush (iI (50)) dX12_clears_72 rfl ?_
      obtain ⟨b1, H⟩ := wp_g H
      refine ar_iast dX12_clears_74 rfl (ok_M rfl) (ib_in b1) ?_
      replace H := wp_l H
      generalize am_u h (.inl 0) 2 (((iI (3))).toNatClampNeg) (iI (50)) = h1 at H ⊢
      refine rl_a0 dX12_clears_75 ?_
      refine rg_R (.inl 0) 2 dX12_clears_76 fg_X12_20 rfl rfl rfl (ok_M rfl) ?_
      refine ar_iconst (iI (4)) dX12_clears_79 rfl ?_
      refine ar_iconst (iI (1)) dX12_clears_80 rfl ?_
      obtain ⟨b2, H⟩ := wp_g H
      refine ar_iast dX12_clears_81 rfl (ok_M rfl) (ib_in b2) ?_
      replace H := wp_l H
      generalize am_u h1 (.inl 0) 2 (((iI (4))).toNatClampNeg) (iI (1)) = h2 at H ⊢
      refine rl_a0 dX12_clears_82 ?_
      refine rg_R (.inl 0) 2 dX12_clears_83 fg_X12_20 rfl rfl rfl (ok_M rfl) ?_
      refine ar_iconst (iI (5)) dX12_clears_86 rfl ?_
      refine ar_iconst (iI (1)) dX12_clears_87 rfl ?_
      obtain ⟨b3, H⟩ := wp_g H
      refine ar_iast dX12_clears_88 rfl (ok_M rfl) (ib_in b3) ?_
      replace H := wp_l H
      generalize am_u h2 (.inl 0) 2 (((iI (5))).toNatClampNeg) (iI (1)) = h3 at H ⊢
      replace H := lp_re H
      exact ar_vret dX12_clears_89 rfl H
    · replace H := wp_f c1 H
      refine rl_a0 dX12_clears_51 ?_
      refine rg_R (.inl 0) 2 dX12_clears_52 fg_X12_20 rfl rfl rfl (ok_M rfl) ?_
      refine ar_bipush (iI (104)) dX12_clears_55 rfl ?_
      refine rl_i1 dX12_clears_57 ?_
      refine ar_iadd dX12_clears_58 ?_
      refine ar_iconst (iI (4)) dX12_clears_59 rfl ?_
      obtain ⟨b1, H⟩ := wp_g H
      refine ar_iast dX12_clears_60 rfl (ok_M rfl) (ib_in b1) ?_
      replace H := wp_l H
      generalize am_u h (.inl 0) 2 ((((iI (104)) + x1)).toNatClampNeg) (iI (4)) = h1 at H ⊢
      refine rn_1_1 dX12_clears_61 rfl trivial ?_
      refine ar_goto 45 dX12_clears_64 (by decide) ?_
      exact am_V.wk (am_s (am_s am_0)) ((lp_in H).2.2 _ _ rfl)
theorem c_X12_clears  {h : am_H} {a : am_H} (e : f_X12_clears h = some a) : am_Mv yX12_clears cX12_clears 2 (none) 0 0 [am_r (.inl 0) 0] h a := by
  refine am_M.ofv (A := [some (am_r (.inl 0) 0), none]) (by decide +kernel) rfl (ble rfl) (fun Q hQ => ?_)
  have H : wp (f_X12_clears h) (fun a => Q none a) := ⟨a, e, hQ⟩
  unfold f_X12_clears at H
  refine ar_iconst (iI (0)) dX12_clears_0 rfl ?_
  refine rs_i1 dX12_clears_1 rfl trivial ?_
  exact am_V.wk (am_s (am_s am_0)) ((c_X12_clears_L  _ H).1 _ _ rfl)
noncomputable def f_X12_laysAside  (h : am_H) : Option am_H :=
  (f_X12_copiesRow 2 408 (iI (0)) 4 408 (iI (0)) h).bind (fun a1 => some (a1))
theorem c_X12_laysAside  {h : am_H} {a : am_H} (e : f_X12_laysAside h = some a) : am_Mv yX12_laysAside cX12_laysAside 1 (none) 1 24 [am_r (.inl 0) 0] h a := by
  refine am_M.ofv (A := [some (am_r (.inl 0) 0)]) (by decide +kernel) rfl (ble rfl) (fun Q hQ => ?_)
  have H : wp (f_X12_laysAside h) (fun a => Q none a) := ⟨a, e, hQ⟩
  unfold f_X12_laysAside at H
  refine rl_a0 dX12_laysAside_0 ?_
  refine rg_R (.inl 0) 2 dX12_laysAside_1 fg_X12_20 rfl rfl rfl (ok_M rfl) ?_
  refine ar_iconst (iI (0)) dX12_laysAside_4 rfl ?_
  refine rl_a0 dX12_laysAside_5 ?_
  refine rg_R (.inl 0) 4 dX12_laysAside_6 fg_X12_26 rfl rfl rfl (ok_M rfl) ?_
  refine ar_iconst (iI (0)) dX12_laysAside_9 rfl ?_
  obtain ⟨a1, e1, H⟩ := wp_b H
  refine rc_S4v dX12_laysAside_10 ml_X12_151 mc_X12_copiesRow (c_X12_copiesRow rfl (ok_M rfl) rfl (ok_M rfl) e1) rfl rfl rfl ?_
  replace H := wp_s H
  exact ar_vret dX12_laysAside_13 rfl H
noncomputable def s_X12_keeps  : am_S am_H → Option (am_S am_H ⊕ am_H) := fun s => match s with
  | (21, [x1], [], [], h) => if ((iI (408)) * (h.1 (.inl 0) 0 21)) ≤ x1 then (some (.inl (55, [], [], [], h))) else (if ib (x1 + (iI (408))) 2448 then (if ib x1 2448 then (am_lt (am_u h (.inl 0) 6 x1.toNatClampNeg (h.1 (.inl 0) 6 ((x1 + (iI (408)))).toNatClampNeg)) (fun h1 => some (.inl (21, [(x1 + 1)], [], [], h1)))) else none) else none)
  | (55, [], [], [], h) => (f_X12_copiesRow 4 408 (iI (0)) 6 2448 ((iI (408)) * (h.1 (.inl 0) 0 21)) h).bind (fun a1 => am_lt (am_u a1 (.inl 0) 0 21 ((a1.1 (.inl 0) 0 21) + (iI (1)))) (fun h1 => some (.inr (h1))))
  | _ => none
noncomputable def f_X12_keeps_21  (x1 : Int32) (h : am_H) : Option am_H := lp (s_X12_keeps) (21, [x1], [], [], h)
noncomputable def f_X12_keeps_55   (h : am_H) : Option am_H := lp (s_X12_keeps) (55, [], [], [], h)
theorem e_X12_keeps_21  (x1 : Int32) (h : am_H) : f_X12_keeps_21 x1 h = (if ((iI (408)) * (h.1 (.inl 0) 0 21)) ≤ x1 then (f_X12_keeps_55 h) else (if ib (x1 + (iI (408))) 2448 then (if ib x1 2448 then (am_lt (am_u h (.inl 0) 6 x1.toNatClampNeg (h.1 (.inl 0) 6 ((x1 + (iI (408)))).toNatClampNeg)) (fun h1 => f_X12_keeps_21 (x1 + 1) h1)) else none) else none)) := by
  show lp _ _ = _
  rw [lp_eq, s_X12_keeps]
  simp only [lpk_i, lpk_b, lpk_l, lpk_n, lpk_j, lpk_r] <;> rfl
theorem e_X12_keeps_55   (h : am_H) : f_X12_keeps_55 h = ((f_X12_copiesRow 4 408 (iI (0)) 6 2448 ((iI (408)) * (h.1 (.inl 0) 0 21)) h).bind (fun a1 => am_lt (am_u a1 (.inl 0) 0 21 ((a1.1 (.inl 0) 0 21) + (iI (1)))) (fun h1 => some (h1)))) := by
  show lp _ _ = _
  rw [lp_eq, s_X12_keeps]
  simp only [lpk_i, lpk_b, lpk_l, lpk_n, lpk_j, lpk_r] <;> rfl
noncomputable def f_X12_keeps  (h : am_H) : Option am_H :=
  if (h.1 (.inl 0) 0 21) = (iI (6)) then (am_lt (am_u h (.inl 0) 0 21 ((h.1 (.inl 0) 0 21) - (iI (1)))) (fun h1 => f_X12_keeps_21 (iI (0)) h1)) else (f_X12_keeps_55 h)
theorem c_X12_keeps_L  {Q : Option am_v → am_H → Prop} : ∀ s, wp (lp (s_X12_keeps) s) (fun a => Q none a) → ((∀ x1 h, s = (21, [x1], [], [], h) → am_V RX12 cX12_keeps 2 (none) 1 24 0 0 none (am_Tm cX12_keeps (none) Q) 0 0 21 [some (am_r (.inl 0) 0), some (am_i x1)] [] h) ∧ (∀ h, s = (55, [], [], [], h) → am_V RX12 cX12_keeps 2 (none) 1 24 0 0 none (am_Tm cX12_keeps (none) Q) 0 0 55 [some (am_r (.inl 0) 0), none] [] h)) := by
  refine lp_ind _ _ (fun s H => ⟨fun x1 h e => ?_, fun h e => ?_⟩)
  · subst e
    rw [s_X12_keeps] at H
    refine rl_i1 dX12_keeps_21 ?_
    refine ar_sipush (iI (408)) dX12_keeps_22 rfl ?_
    refine rl_a0 dX12_keeps_25 ?_
    refine ar_getI dX12_keeps_26 fg_X12_155 rfl rfl (ok_M rfl) ?_
    refine ar_imul dX12_keeps_29 ?_
    refine ar_ic_ge 55 dX12_keeps_30 (by decide) (fun c1 => ?_) (fun c1 => ?_)
    · replace H := wp_t c1 H
      exact am_V.wk (am_s (am_n am_0)) ((lp_in H).2 _ rfl)
    · replace H := wp_f c1 H
      refine rl_a0 dX12_keeps_33 ?_
      refine rg_R (.inl 0) 6 dX12_keeps_34 fg_X12_32 rfl rfl rfl (ok_M rfl) ?_
      refine rl_i1 dX12_keeps_37 ?_
      refine rl_a0 dX12_keeps_38 ?_
      refine rg_R (.inl 0) 6 dX12_keeps_39 fg_X12_32 rfl rfl rfl (ok_M rfl) ?_
      refine rl_i1 dX12_keeps_42 ?_
      refine ar_sipush (iI (408)) dX12_keeps_43 rfl ?_
      refine ar_iadd dX12_keeps_46 ?_
      obtain ⟨b1, H⟩ := wp_g H
      refine ar_iald dX12_keeps_47 rfl (ok_M rfl) (ib_in b1) ?_
      obtain ⟨b2, H⟩ := wp_g H
      refine ar_iast dX12_keeps_48 rfl (ok_M rfl) (ib_in b2) ?_
      replace H := wp_l H
      generalize am_u h (.inl 0) 6 x1.toNatClampNeg (h.1 (.inl 0) 6 ((x1 + (iI (408)))).toNatClampNeg) = h1 at H ⊢
      refine rn_1_1 dX12_keeps_49 rfl trivial ?_
      refine ar_goto 21 dX12_keeps_52 (by decide) ?_
      exact am_V.wk (am_s (am_s am_0)) ((lp_in H).1 _ _ rfl)
  · subst e
    rw [s_X12_keeps] at H
    refine rl_a0 dX12_keeps_55 ?_
    refine rg_R (.inl 0) 4 dX12_keeps_56 fg_X12_26 rfl rfl rfl (ok_M rfl) ?_
    refine ar_iconst (iI (0)) dX12_keeps_59 rfl ?_
    refine rl_a0 dX12_keeps_60 ?_
    refine rg_R (.inl 0) 6 dX12_keeps_61 fg_X12_32 rfl rfl rfl (ok_M rfl) ?_
    refine ar_sipush (iI (408)) dX12_keeps_64 rfl ?_
    refine rl_a0 dX12_keeps_67 ?_
    refine ar_getI dX12_keeps_68 fg_X12_155 rfl rfl (ok_M rfl) ?_
    refine ar_imul dX12_keeps_71 ?_
    obtain ⟨a1, e1, H⟩ := wp_b H
    refine rc_S4v dX12_keeps_72 ml_X12_151 mc_X12_copiesRow (c_X12_copiesRow rfl (ok_M rfl) rfl (ok_M rfl) e1) rfl rfl rfl ?_
    refine rl_a0 dX12_keeps_75 ?_
    refine ar_dup dX12_keeps_76 trivial ?_
    refine ar_getI dX12_keeps_77 fg_X12_155 rfl rfl (ok_M rfl) ?_
    refine ar_iconst (iI (1)) dX12_keeps_80 rfl ?_
    refine ar_iadd dX12_keeps_81 ?_
    refine ar_putI dX12_keeps_82 fg_X12_155 rfl rfl (ok_M rfl) rfl rfl ?_
    replace H := wp_l H
    generalize am_u a1 (.inl 0) 0 21 ((a1.1 (.inl 0) 0 21) + (iI (1))) = h1 at H ⊢
    replace H := lp_re H
    exact ar_vret dX12_keeps_85 rfl H
theorem c_X12_keeps  {h : am_H} {a : am_H} (e : f_X12_keeps h = some a) : am_Mv yX12_keeps cX12_keeps 2 (none) 1 24 [am_r (.inl 0) 0] h a := by
  refine am_M.ofv (A := [some (am_r (.inl 0) 0), none]) (by decide +kernel) rfl (ble rfl) (fun Q hQ => ?_)
  have H : wp (f_X12_keeps h) (fun a => Q none a) := ⟨a, e, hQ⟩
  unfold f_X12_keeps at H
  refine rl_a0 dX12_keeps_0 ?_
  refine ar_getI dX12_keeps_1 fg_X12_155 rfl rfl (ok_M rfl) ?_
  refine ar_bipush (iI (6)) dX12_keeps_4 rfl ?_
  refine ar_ic_ne 55 dX12_keeps_6 (by decide) (fun c1 => ?_) (fun c1 => ?_)
  · replace H := wp_f c1 H
    exact am_V.wk (am_s (am_n am_0)) ((c_X12_keeps_L  _ H).2 _ rfl)
  · replace H := wp_t c1 H
    refine rl_a0 dX12_keeps_9 ?_
    refine ar_dup dX12_keeps_10 trivial ?_
    refine ar_getI dX12_keeps_11 fg_X12_155 rfl rfl (ok_M rfl) ?_
    refine ar_iconst (iI (1)) dX12_keeps_14 rfl ?_
    refine ar_isub dX12_keeps_15 ?_
    refine ar_putI dX12_keeps_16 fg_X12_155 rfl rfl (ok_M rfl) rfl rfl ?_
    replace H := wp_l H
    generalize am_u h (.inl 0) 0 21 ((h.1 (.inl 0) 0 21) - (iI (1))) = h1 at H ⊢
    refine ar_iconst (iI (0)) dX12_keeps_19 rfl ?_
    refine rs_i1 dX12_keeps_20 rfl trivial ?_
    exact am_V.wk (am_s (am_s am_0)) ((c_X12_keeps_L  _ H).1 _ _ rfl)
noncomputable def f_X12_kept (x1 : Int32) (h : am_H) : Option (Int32 × am_H) :=
  (f_X12_keeps h).bind (fun a1 => some ((x1, a1)))
theorem c_X12_kept {x1 : Int32} {h : am_H} {a : Int32 × am_H} (e : f_X12_kept x1 h = some a) : am_Mi yX12_kept cX12_kept 2 (some .int) 2 45 [am_r (.inl 0) 0, am_i x1] h a.1 a.2 := by
  refine am_M.ofi (A := [some (am_r (.inl 0) 0), some (am_i x1)]) (by decide +kernel) rfl (ble rfl) (fun Q hQ => ?_)
  have H : wp (f_X12_kept x1 h) (fun a => Q (some (am_i a.1)) a.2) := ⟨a, e, hQ⟩
  unfold f_X12_kept at H
  refine rl_a0 dX12_kept_0 ?_
  obtain ⟨a1, e1, H⟩ := wp_b H
  refine rc_V0v dX12_kept_1 ml_X12_158 mc_X12_keeps (c_X12_keeps e1) rfl rfl rfl (ok_M rfl) rfl rfl rfl ?_
  refine rl_i1 dX12_kept_4 ?_
  replace H := wp_s H
  exact ar_iret dX12_kept_5 rfl rfl H
noncomputable def f_X12_undo  (h : am_H) : Option (Int32 × am_H) :=
  am_lt (am_u h (.inl 0) 0 0 (iI (0))) (fun h1 => if (h1.1 (.inl 0) 0 21) = 0 then (some (((iI (-1)), h1))) else (am_lt (am_u h1 (.inl 0) 0 21 ((h1.1 (.inl 0) 0 21) - (iI (1)))) (fun h2 => (f_X12_copiesRow 6 2448 ((iI (408)) * (h2.1 (.inl 0) 0 21)) 2 408 (iI (0)) h2).bind (fun a1 => some (((a1.1 (.inl 0) 0 21), a1))))))
theorem c_X12_undo  {h : am_H} {a : Int32 × am_H} (e : f_X12_undo h = some a) : am_Mi yX12_undo cX12_undo 1 (some .int) 1 24 [am_r (.inl 0) 0] h a.1 a.2 := by
  refine am_M.ofi (A := [some (am_r (.inl 0) 0)]) (by decide +kernel) rfl (ble rfl) (fun Q hQ => ?_)
  have H : wp (f_X12_undo h) (fun a => Q (some (am_i a.1)) a.2) := ⟨a, e, hQ⟩
  unfold f_X12_undo at H
  refine rl_a0 dX12_undo_0 ?_
  refine ar_iconst (iI (0)) dX12_undo_1 rfl ?_
  refine ar_putI dX12_undo_2 fg_X12_72 rfl rfl (ok_M rfl) rfl rfl ?_
  replace H := wp_l H
  generalize am_u h (.inl 0) 0 0 (iI (0)) = h1 at H ⊢
  refine rl_a0 dX12_undo_5 ?_
  refine ar_getI dX12_undo_6 fg_X12_155 rfl rfl (ok_M rfl) ?_
  refine ar_if_ne 14 dX12_undo_9 (by decide) (fun c1 => ?_) (fun c1 => ?_)
  · replace H := wp_f c1 H
    refine rl_a0 dX12_undo_14 ?_
    refine ar_dup dX12_undo_15 trivial ?_
    refine ar_getI dX12_undo_16 fg_X12_155 rfl rfl (ok_M rfl) ?_
    refine ar_iconst (iI (1)) dX12_undo_19 rfl ?_
    refine ar_isub dX12_undo_20 ?_
    refine ar_putI dX12_undo_21 fg_X12_155 rfl rfl (ok_M rfl) rfl rfl ?_
    replace H := wp_l H
    generalize am_u h1 (.inl 0) 0 21 ((h1.1 (.inl 0) 0 21) - (iI (1))) = h2 at H ⊢
    refine rl_a0 dX12_undo_24 ?_
    refine rg_R (.inl 0) 6 dX12_undo_25 fg_X12_32 rfl rfl rfl (ok_M rfl) ?_
    refine ar_sipush (iI (408)) dX12_undo_28 rfl ?_
    refine rl_a0 dX12_undo_31 ?_
    refine ar_getI dX12_undo_32 fg_X12_155 rfl rfl (ok_M rfl) ?_
    refine ar_imul dX12_undo_35 ?_
    refine rl_a0 dX12_undo_36 ?_
    refine rg_R (.inl 0) 2 dX12_undo_37 fg_X12_20 rfl rfl rfl (ok_M rfl) ?_
    refine ar_iconst (iI (0)) dX12_undo_40 rfl ?_
    obtain ⟨a1, e1, H⟩ := wp_b H
    refine rc_S4v dX12_undo_41 ml_X12_151 mc_X12_copiesRow (c_X12_copiesRow rfl (ok_M rfl) rfl (ok_M rfl) e1) rfl rfl rfl ?_
    refine rl_a0 dX12_undo_44 ?_
    refine ar_getI dX12_undo_45 fg_X12_155 rfl rfl (ok_M rfl) ?_
    replace H := wp_s H
    exact ar_iret dX12_undo_48 rfl rfl H
  · replace H := wp_t c1 H
    refine ar_iconst (iI (-1)) dX12_undo_12 rfl ?_
    replace H := wp_s H
    exact ar_iret dX12_undo_13 rfl rfl H
noncomputable def f_X12_save  (h : am_H) : Option (Int32 × am_H) :=
  am_lt (am_u h (.inl 0) 0 0 (iI (0))) (fun h1 => (f_X12_copiesRow 2 408 (iI (0)) 3 408 (iI (0)) h1).bind (fun a1 => (f_X12_copiesNames 7 6 8 6 a1).bind (fun a2 => am_lt (am_u a2 (.inl 0) 0 22 (iI (1))) (fun h2 => if ib (iI (8)) 408 then (some (((h2.1 (.inl 0) 2 ((iI (8))).toNatClampNeg), h2))) else none))))
theorem c_X12_save  {h : am_H} {a : Int32 × am_H} (e : f_X12_save h = some a) : am_Mi yX12_save cX12_save 1 (some .int) 1 24 [am_r (.inl 0) 0] h a.1 a.2 := by
  refine am_M.ofi (A := [some (am_r (.inl 0) 0)]) (by decide +kernel) rfl (ble rfl) (fun Q hQ => ?_)
  have H : wp (f_X12_save h) (fun a => Q (some (am_i a.1)) a.2) := ⟨a, e, hQ⟩
  unfold f_X12_save at H
  refine rl_a0 dX12_save_0 ?_
  refine ar_iconst (iI (0)) dX12_save_1 rfl ?_
  refine ar_putI dX12_save_2 fg_X12_72 rfl rfl (ok_M rfl) rfl rfl ?_
  replace H := wp_l H
  generalize am_u h (.inl 0) 0 0 (iI (0)) = h1 at H ⊢
  refine rl_a0 dX12_save_5 ?_
  refine rg_R (.inl 0) 2 dX12_save_6 fg_X12_20 rfl rfl rfl (ok_M rfl) ?_
  refine ar_iconst (iI (0)) dX12_save_9 rfl ?_
  refine rl_a0 dX12_save_10 ?_
  refine rg_R (.inl 0) 3 dX12_save_11 fg_X12_23 rfl rfl rfl (ok_M rfl) ?_
  refine ar_iconst (iI (0)) dX12_save_14 rfl ?_
  obtain ⟨a1, e1, H⟩ := wp_b H
  refine rc_S4v dX12_save_15 ml_X12_151 mc_X12_copiesRow (c_X12_copiesRow rfl (ok_M rfl) rfl (ok_M rfl) e1) rfl rfl rfl ?_
  refine rl_a0 dX12_save_18 ?_
  refine rg_R (.inl 0) 7 dX12_save_19 fg_X12_35 rfl rfl rfl (ok_M rfl) ?_
  refine rl_a0 dX12_save_22 ?_
  refine rg_R (.inl 0) 8 dX12_save_23 fg_X12_39 rfl rfl rfl (ok_M rfl) ?_
  obtain ⟨a2, e2, H⟩ := wp_b H
  refine rc_S2v dX12_save_26 ml_X12_161 mc_X12_copiesNames (c_X12_copiesNames rfl (ok_M rfl) rfl (ok_M rfl) e2) rfl rfl rfl ?_
  refine rl_a0 dX12_save_29 ?_
  refine ar_iconst (iI (1)) dX12_save_30 rfl ?_
  refine ar_putI dX12_save_31 fg_X12_165 rfl rfl (ok_M rfl) rfl rfl ?_
  replace H := wp_l H
  generalize am_u a2 (.inl 0) 0 22 (iI (1)) = h2 at H ⊢
  refine rl_a0 dX12_save_34 ?_
  refine rg_R (.inl 0) 2 dX12_save_35 fg_X12_20 rfl rfl rfl (ok_M rfl) ?_
  refine ar_bipush (iI (8)) dX12_save_38 rfl ?_
  obtain ⟨b1, H⟩ := wp_g H
  refine ar_iald dX12_save_40 rfl (ok_M rfl) (ib_in b1) ?_
  replace H := wp_s H
  exact ar_iret dX12_save_41 rfl rfl H
noncomputable def f_X12_restore  (h : am_H) : Option (Int32 × am_H) :=
  (f_X12_goes (h.1 (.inl 0) 0 22) h).bind (fun a1 => if a1.1 = 0 then (some (((iI (0)), a1.2))) else ((f_X12_copiesRow 3 408 (iI (0)) 2 408 (iI (0)) a1.2).bind (fun a2 => (f_X12_copiesNames 8 6 7 6 a2).bind (fun a3 => am_lt (am_u a3 (.inl 0) 0 21 (iI (0))) (fun h1 => if ib (iI (8)) 408 then (some (((h1.1 (.inl 0) 2 ((iI (8))).toNatClampNeg), h1))) else none)))))
theorem c_X12_restore  {h : am_H} {a : Int32 × am_H} (e : f_X12_restore h = some a) : am_Mi yX12_restore cX12_restore 1 (some .int) 2 41 [am_r (.inl 0) 0] h a.1 a.2 := by
  refine am_M.ofi (A := [some (am_r (.inl 0) 0)]) (by decide +kernel) rfl (ble rfl) (fun Q hQ => ?_)
  have H : wp (f_X12_restore h) (fun a => Q (some (am_i a.1)) a.2) := ⟨a, e, hQ⟩
  unfold f_X12_restore at H
  refine rl_a0 dX12_restore_0 ?_
  refine rl_a0 dX12_restore_1 ?_
  refine ar_getI dX12_restore_2 fg_X12_165 rfl rfl (ok_M rfl) ?_
  obtain ⟨a1, e1, H⟩ := wp_b H
  refine rc_V1i dX12_restore_5 ml_X12_82 mc_X12_goes (c_X12_goes e1) rfl rfl rfl (ok_M rfl) rfl rfl rfl ?_
  refine ar_if_ne 13 dX12_restore_8 (by decide) (fun c1 => ?_) (fun c1 => ?_)
  · replace H := wp_f c1 H
    refine rl_a0 dX12_restore_13 ?_
    refine rg_R (.inl 0) 3 dX12_restore_14 fg_X12_23 rfl rfl rfl (ok_M rfl) ?_
    refine ar_iconst (iI (0)) dX12_restore_17 rfl ?_
    refine rl_a0 dX12_restore_18 ?_
    refine rg_R (.inl 0) 2 dX12_restore_19 fg_X12_20 rfl rfl rfl (ok_M rfl) ?_
    refine ar_iconst (iI (0)) dX12_restore_22 rfl ?_
    obtain ⟨a2, e2, H⟩ := wp_b H
    refine rc_S4v dX12_restore_23 ml_X12_151 mc_X12_copiesRow (c_X12_copiesRow rfl (ok_M rfl) rfl (ok_M rfl) e2) rfl rfl rfl ?_
    refine rl_a0 dX12_restore_26 ?_
    refine rg_R (.inl 0) 8 dX12_restore_27 fg_X12_39 rfl rfl rfl (ok_M rfl) ?_
    refine rl_a0 dX12_restore_30 ?_
    refine rg_R (.inl 0) 7 dX12_restore_31 fg_X12_35 rfl rfl rfl (ok_M rfl) ?_
    obtain ⟨a3, e3, H⟩ := wp_b H
    refine rc_S2v dX12_restore_34 ml_X12_161 mc_X12_copiesNames (c_X12_copiesNames rfl (ok_M rfl) rfl (ok_M rfl) e3) rfl rfl rfl ?_
    refine rl_a0 dX12_restore_37 ?_
    refine ar_iconst (iI (0)) dX12_restore_38 rfl ?_
    refine ar_putI dX12_restore_39 fg_X12_155 rfl rfl (ok_M rfl) rfl rfl ?_
    replace H := wp_l H
    generalize am_u a3 (.inl 0) 0 21 (iI (0)) = h1 at H ⊢
    refine rl_a0 dX12_restore_42 ?_
    refine rg_R (.inl 0) 2 dX12_restore_43 fg_X12_20 rfl rfl rfl (ok_M rfl) ?_
    refine ar_bipush (iI (8)) dX12_restore_46 rfl ?_
    obtain ⟨b1, H⟩ := wp_g H
    refine ar_iald dX12_restore_48 rfl (ok_M rfl) (ib_in b1) ?_
    replace H := wp_s H
    exact ar_iret dX12_restore_49 rfl rfl H
  · replace H := wp_t c1 H
    refine ar_iconst (iI (0)) dX12_restore_11 rfl ?_
    replace H := wp_s H
    exact ar_iret dX12_restore_12 rfl rfl H
noncomputable def f_X12_ofArc (x1 : Int32) (x2 : Int32) (h : am_H) : Option Int32 :=
  if ib (((iI (12)) + ((iI (4)) * x1)) + x2) 408 then (some ((h.1 (.inl 0) 2 ((((iI (12)) + ((iI (4)) * x1)) + x2)).toNatClampNeg))) else none
theorem c_X12_ofArc {x1 : Int32} {x2 : Int32} {h : am_H} {a : Int32} (e : f_X12_ofArc x1 x2 h = some a) : am_Mi yX12_ofArc cX12_ofArc 3 (some .int) 0 0 [am_r (.inl 0) 0, am_i x1, am_i x2] h a h := by
  refine am_M.ofi (A := [some (am_r (.inl 0) 0), some (am_i x1), some (am_i x2)]) (by decide +kernel) rfl (ble rfl) (fun Q hQ => ?_)
  have H : wp (f_X12_ofArc x1 x2 h) (fun a => Q (some (am_i a)) h) := ⟨a, e, hQ⟩
  unfold f_X12_ofArc at H
  refine rl_a0 dX12_ofArc_0 ?_
  refine rg_R (.inl 0) 2 dX12_ofArc_1 fg_X12_20 rfl rfl rfl (ok_M rfl) ?_
  refine ar_bipush (iI (12)) dX12_ofArc_4 rfl ?_
  refine ar_iconst (iI (4)) dX12_ofArc_6 rfl ?_
  refine rl_i1 dX12_ofArc_7 ?_
  refine ar_imul dX12_ofArc_8 ?_
  refine ar_iadd dX12_ofArc_9 ?_
  refine rl_i2 dX12_ofArc_10 ?_
  refine ar_iadd dX12_ofArc_11 ?_
  obtain ⟨b1, H⟩ := wp_g H
  refine ar_iald dX12_ofArc_12 rfl (ok_M rfl) (ib_in b1) ?_
  replace H := wp_s H
  exact ar_iret dX12_ofArc_13 rfl rfl H
noncomputable def f_X12_ofLetter (x1 : Int32) (x2 : Int32) (h : am_H) : Option Int32 :=
  if ib (((iI (44)) + ((iI (3)) * x1)) + x2) 408 then (some ((h.1 (.inl 0) 2 ((((iI (44)) + ((iI (3)) * x1)) + x2)).toNatClampNeg))) else none
theorem c_X12_ofLetter {x1 : Int32} {x2 : Int32} {h : am_H} {a : Int32} (e : f_X12_ofLetter x1 x2 h = some a) : am_Mi yX12_ofLetter cX12_ofLetter 3 (some .int) 0 0 [am_r (.inl 0) 0, am_i x1, am_i x2] h a h := by
  refine am_M.ofi (A := [some (am_r (.inl 0) 0), some (am_i x1), some (am_i x2)]) (by decide +kernel) rfl (ble rfl) (fun Q hQ => ?_)
  have H : wp (f_X12_ofLetter x1 x2 h) (fun a => Q (some (am_i a)) h) := ⟨a, e, hQ⟩
  unfold f_X12_ofLetter at H
  refine rl_a0 dX12_ofLetter_0 ?_
  refine rg_R (.inl 0) 2 dX12_ofLetter_1 fg_X12_20 rfl rfl rfl (ok_M rfl) ?_
  refine ar_bipush (iI (44)) dX12_ofLetter_4 rfl ?_
  refine ar_iconst (iI (3)) dX12_ofLetter_6 rfl ?_
  refine rl_i1 dX12_ofLetter_7 ?_
  refine ar_imul dX12_ofLetter_8 ?_
  refine ar_iadd dX12_ofLetter_9 ?_
  refine rl_i2 dX12_ofLetter_10 ?_
  refine ar_iadd dX12_ofLetter_11 ?_
  obtain ⟨b1, H⟩ := wp_g H
  refine ar_iald dX12_ofLetter_12 rfl (ok_M rfl) (ib_in b1) ?_
  replace H := wp_s H
  exact ar_iret dX12_ofLetter_13 rfl rfl H
noncomputable def f_X12_setsLetter (x1 : Int32) (x2 : Int32) (x3 : Int32) (h : am_H) : Option am_H :=
  if ib (((iI (44)) + ((iI (3)) * x1)) + x2) 408 then (am_lt (am_u h (.inl 0) 2 (((((iI (44)) + ((iI (3)) * x1)) + x2)).toNatClampNeg) x3) (fun h1 => some (h1))) else none
theorem c_X12_setsLetter {x1 : Int32} {x2 : Int32} {x3 : Int32} {h : am_H} {a : am_H} (e : f_X12_setsLetter x1 x2 x3 h = some a) : am_Mv yX12_setsLetter cX12_setsLetter 4 (none) 0 0 [am_r (.inl 0) 0, am_i x1, am_i x2, am_i x3] h a := by
  refine am_M.ofv (A := [some (am_r (.inl 0) 0), some (am_i x1), some (am_i x2), some (am_i x3)]) (by decide +kernel) rfl (ble rfl) (fun Q hQ => ?_)
  have H : wp (f_X12_setsLetter x1 x2 x3 h) (fun a => Q none a) := ⟨a, e, hQ⟩
  unfold f_X12_setsLetter at H
  refine rl_a0 dX12_setsLetter_0 ?_
  refine rg_R (.inl 0) 2 dX12_setsLetter_1 fg_X12_20 rfl rfl rfl (ok_M rfl) ?_
  refine ar_bipush (iI (44)) dX12_setsLetter_4 rfl ?_
  refine ar_iconst (iI (3)) dX12_setsLetter_6 rfl ?_
  refine rl_i1 dX12_setsLetter_7 ?_
  refine ar_imul dX12_setsLetter_8 ?_
  refine ar_iadd dX12_setsLetter_9 ?_
  refine rl_i2 dX12_setsLetter_10 ?_
  refine ar_iadd dX12_setsLetter_11 ?_
  refine rl_i3 dX12_setsLetter_12 ?_
  obtain ⟨b1, H⟩ := wp_g H
  refine ar_iast dX12_setsLetter_13 rfl (ok_M rfl) (ib_in b1) ?_
  replace H := wp_l H
  generalize am_u h (.inl 0) 2 (((((iI (44)) + ((iI (3)) * x1)) + x2)).toNatClampNeg) x3 = h1 at H ⊢
  replace H := wp_s H
  exact ar_vret dX12_setsLetter_14 rfl H
noncomputable def f_X12_ofKind (x1 : Int32) (x2 : Int32) (h : am_H) : Option Int32 :=
  if ib (((iI (130)) + ((iI (3)) * x1)) + x2) 408 then (some ((h.1 (.inl 0) 2 ((((iI (130)) + ((iI (3)) * x1)) + x2)).toNatClampNeg))) else none
theorem c_X12_ofKind {x1 : Int32} {x2 : Int32} {h : am_H} {a : Int32} (e : f_X12_ofKind x1 x2 h = some a) : am_Mi yX12_ofKind cX12_ofKind 3 (some .int) 0 0 [am_r (.inl 0) 0, am_i x1, am_i x2] h a h := by
  refine am_M.ofi (A := [some (am_r (.inl 0) 0), some (am_i x1), some (am_i x2)]) (by decide +kernel) rfl (ble rfl) (fun Q hQ => ?_)
  have H : wp (f_X12_ofKind x1 x2 h) (fun a => Q (some (am_i a)) h) := ⟨a, e, hQ⟩
  unfold f_X12_ofKind at H
  refine rl_a0 dX12_ofKind_0 ?_
  refine rg_R (.inl 0) 2 dX12_ofKind_1 fg_X12_20 rfl rfl rfl (ok_M rfl) ?_
  refine ar_sipush (iI (130)) dX12_ofKind_4 rfl ?_
  refine ar_iconst (iI (3)) dX12_ofKind_7 rfl ?_
  refine rl_i1 dX12_ofKind_8 ?_
  refine ar_imul dX12_ofKind_9 ?_
  refine ar_iadd dX12_ofKind_10 ?_
  refine rl_i2 dX12_ofKind_11 ?_
  refine ar_iadd dX12_ofKind_12 ?_
  obtain ⟨b1, H⟩ := wp_g H
  refine ar_iald dX12_ofKind_13 rfl (ok_M rfl) (ib_in b1) ?_
  replace H := wp_s H
  exact ar_iret dX12_ofKind_14 rfl rfl H
noncomputable def f_X12_ofScratch (x1 : Int32) (x2 : Int32) (h : am_H) : Option Int32 :=
  if ib (((iI (148)) + ((iI (2)) * x1)) + x2) 408 then (some ((h.1 (.inl 0) 2 ((((iI (148)) + ((iI (2)) * x1)) + x2)).toNatClampNeg))) else none
theorem c_X12_ofScratch {x1 : Int32} {x2 : Int32} {h : am_H} {a : Int32} (e : f_X12_ofScratch x1 x2 h = some a) : am_Mi yX12_ofScratch cX12_ofScratch 3 (some .int) 0 0 [am_r (.inl 0) 0, am_i x1, am_i x2] h a h := by
  refine am_M.ofi (A := [some (am_r (.inl 0) 0), some (am_i x1), some (am_i x2)]) (by decide +kernel) rfl (ble rfl) (fun Q hQ => ?_)
  have H : wp (f_X12_ofScratch x1 x2 h) (fun a => Q (some (am_i a)) h) := ⟨a, e, hQ⟩
  unfold f_X12_ofScratch at H
  refine rl_a0 dX12_ofScratch_0 ?_
  refine rg_R (.inl 0) 2 dX12_ofScratch_1 fg_X12_20 rfl rfl rfl (ok_M rfl) ?_
  refine ar_sipush (iI (148)) dX12_ofScratch_4 rfl ?_
  refine ar_iconst (iI (2)) dX12_ofScratch_7 rfl ?_
  refine rl_i1 dX12_ofScratch_8 ?_
  refine ar_imul dX12_ofScratch_9 ?_
  refine ar_iadd dX12_ofScratch_10 ?_
  refine rl_i2 dX12_ofScratch_11 ?_
  refine ar_iadd dX12_ofScratch_12 ?_
  obtain ⟨b1, H⟩ := wp_g H
  refine ar_iald dX12_ofScratch_13 rfl (ok_M rfl) (ib_in b1) ?_
  replace H := wp_s H
  exact ar_iret dX12_ofScratch_14 rfl rfl H
noncomputable def s_X12_lettersOf  : am_S Unit → Option (am_S Unit ⊕ Int32) := fun s => match s with
  | (4, [x2], [x3], [], ()) => if (lg_cmp x3 (0 : Int64)) ≤ 0 then (some (.inr (x2))) else (some (.inl (4, [(x2 + 1)], [(x3 >>> ((iI (5)).toInt64 &&& 63))], [], ())))
  | _ => none
noncomputable def f_X12_lettersOf_4  (x2 : Int32) (x3 : Int64) : Option Int32 := lp (s_X12_lettersOf) (4, [x2], [x3], [], ())
theorem e_X12_lettersOf_4  (x2 : Int32) (x3 : Int64) : f_X12_lettersOf_4 x2 x3 = (if (lg_cmp x3 (0 : Int64)) ≤ 0 then (some (x2)) else (f_X12_lettersOf_4 (x2 + 1) (x3 >>> ((iI (5)).toInt64 &&& 63)))) := by
  show lp _ _ = _
  rw [lp_eq, s_X12_lettersOf]
  simp only [lpk_i, lpk_b, lpk_l, lpk_n, lpk_j, lpk_r] <;> rfl
noncomputable def f_X12_lettersOf (x0 : Int64) : Option Int32 :=
  f_X12_lettersOf_4 (iI (0)) x0
theorem c_X12_lettersOf_L  {h : am_H} {Q : Option am_v → am_H → Prop} : ∀ s, wp (lp (s_X12_lettersOf) s) (fun a => Q (some (am_i a)) h) → ((∀ x2 x3, s = (4, [x2], [x3], [], ()) → am_V RX12 cX12_lettersOf 5 (some .int) 0 0 0 0 none (am_Tm cX12_lettersOf (some .int) Q) 0 0 4 [none, none, some (am_i x2), some (am_l x3), none] [] h)) := by
  refine lp_ind _ _ (fun s H => fun x2 x3 e => ?_)
  · subst e
    rw [s_X12_lettersOf] at H
    refine rl_l3 dX12_lettersOf_4 ?_
    refine ar_lconst (0 : Int64) dX12_lettersOf_5 rfl ?_
    refine ar_lcmp dX12_lettersOf_6 ?_
    refine ar_if_le 20 dX12_lettersOf_7 (by decide) (fun c1 => ?_) (fun c1 => ?_)
    · replace H := wp_t c1 H
      refine rl_i2 dX12_lettersOf_20 ?_
      replace H := lp_re H
      exact ar_iret dX12_lettersOf_21 rfl rfl H
    · replace H := wp_f c1 H
      refine rn_1_2 dX12_lettersOf_10 rfl trivial ?_
      refine rl_l3 dX12_lettersOf_13 ?_
      refine ar_iconst (iI (5)) dX12_lettersOf_14 rfl ?_
      refine ar_lshr dX12_lettersOf_15 ?_
      refine rs_l3 dX12_lettersOf_16 rfl trivial ?_
      refine ar_goto 4 dX12_lettersOf_17 (by decide) ?_
      exact am_V.wk (am_n (am_n (am_s (am_s (am_n am_0))))) ((lp_in H) _ _ rfl)
theorem c_X12_lettersOf {x0 : Int64} {h : am_H} {a : Int32} (e : f_X12_lettersOf x0 = some a) : am_Mi yX12_lettersOf cX12_lettersOf 5 (some .int) 0 0 [am_l x0] h a h := by
  refine am_M.ofi (A := [some (am_l x0), none, none, none, none]) (by decide +kernel) rfl (ble rfl) (fun Q hQ => ?_)
  have H : wp (f_X12_lettersOf x0) (fun a => Q (some (am_i a)) h) := ⟨a, e, hQ⟩
  unfold f_X12_lettersOf at H
  refine ar_iconst (iI (0)) dX12_lettersOf_0 rfl ?_
  refine rs_i2 dX12_lettersOf_1 rfl trivial ?_
  refine rl_l0 dX12_lettersOf_2 ?_
  refine rs_l3 dX12_lettersOf_3 rfl trivial ?_
  exact am_V.wk (am_n (am_n (am_s (am_s (am_n am_0))))) ((c_X12_lettersOf_L  _ H) _ _ rfl)
noncomputable def f_X12_letterOf (x0 : Int64) (x2 : Int32) : Option Int32 :=
  (f_X12_lettersOf x0).bind (fun a1 => (f_X12_isIn x2.toInt64 (0 : Int64) ((a1 - (iI (1))).toInt64)).bind (fun a2 => if a2 = 0 then (some ((iI (0)))) else (some ((((x0 >>> (((iI (5)) * ((a1 - (iI (1))) - x2)).toInt64 &&& 63)) &&& (31 : Int64)).toInt32 + (iI (96)))))))
theorem c_X12_letterOf {x0 : Int64} {x2 : Int32} {h : am_H} {a : Int32} (e : f_X12_letterOf x0 x2 = some a) : am_Mi yX12_letterOf cX12_letterOf 4 (some .int) 1 25 [am_l x0, am_i x2] h a h := by
  refine am_M.ofi (A := [some (am_l x0), none, some (am_i x2), none]) (by decide +kernel) rfl (ble rfl) (fun Q hQ => ?_)
  have H : wp (f_X12_letterOf x0 x2) (fun a => Q (some (am_i a)) h) := ⟨a, e, hQ⟩
  unfold f_X12_letterOf at H
  refine rl_l0 dX12_letterOf_0 ?_
  obtain ⟨a1, e1, H⟩ := wp_b H
  refine rc_S1i dX12_letterOf_1 ml_X12_169 mc_X12_lettersOf (c_X12_lettersOf e1) rfl rfl rfl ?_
  refine rs_i3 dX12_letterOf_4 rfl trivial ?_
  refine rl_i2 dX12_letterOf_5 ?_
  refine ar_i2l dX12_letterOf_6 ?_
  refine ar_lconst (0 : Int64) dX12_letterOf_7 rfl ?_
  refine rl_i3 dX12_letterOf_8 ?_
  refine ar_iconst (iI (1)) dX12_letterOf_9 rfl ?_
  refine ar_isub dX12_letterOf_10 ?_
  refine ar_i2l dX12_letterOf_11 ?_
  obtain ⟨a2, e2, H⟩ := wp_b H
  refine rc_S3i dX12_letterOf_12 ml_X12_90 mc_X12_isIn (c_X12_isIn e2) rfl rfl rfl ?_
  refine ar_if_eq 38 dX12_letterOf_15 (by decide) (fun c1 => ?_) (fun c1 => ?_)
  · replace H := wp_t c1 H
    refine ar_iconst (iI (0)) dX12_letterOf_38 rfl ?_
    replace H := wp_s H
    exact ar_iret dX12_letterOf_39 rfl rfl H
  · replace H := wp_f c1 H
    refine rl_l0 dX12_letterOf_18 ?_
    refine ar_iconst (iI (5)) dX12_letterOf_19 rfl ?_
    refine rl_i3 dX12_letterOf_20 ?_
    refine ar_iconst (iI (1)) dX12_letterOf_21 rfl ?_
    refine ar_isub dX12_letterOf_22 ?_
    refine rl_i2 dX12_letterOf_23 ?_
    refine ar_isub dX12_letterOf_24 ?_
    refine ar_imul dX12_letterOf_25 ?_
    refine ar_lshr dX12_letterOf_26 ?_
    refine ar_ldc2 (31) dX12_letterOf_27 kc_X12_173 ?_
    refine ar_land dX12_letterOf_30 ?_
    refine ar_l2i dX12_letterOf_31 ?_
    refine ar_bipush (iI (96)) dX12_letterOf_32 rfl ?_
    refine ar_iadd dX12_letterOf_34 ?_
    refine ar_goto 39 dX12_letterOf_35 (by decide) ?_
    replace H := wp_s H
    exact ar_iret dX12_letterOf_39 rfl rfl H
noncomputable def f_X12_mustBeWord  (h : am_H) : Option am_H :=
  (f_X12_isGood h).bind (fun a1 => if a1 = 0 then (some (h)) else (if (h.1 (.inl 0) 0 6) = (iI (1)) then (some (h)) else ((f_X12_wrong (iI (1)) h).bind (fun a2 => some (a2)))))
theorem c_X12_mustBeWord  {h : am_H} {a : am_H} (e : f_X12_mustBeWord h = some a) : am_Mv yX12_mustBeWord cX12_mustBeWord 1 (none) 1 21 [am_r (.inl 0) 0] h a := by
  refine am_M.ofv (A := [some (am_r (.inl 0) 0)]) (by decide +kernel) rfl (ble rfl) (fun Q hQ => ?_)
  have H : wp (f_X12_mustBeWord h) (fun a => Q none a) := ⟨a, e, hQ⟩
  unfold f_X12_mustBeWord at H
  refine rl_a0 dX12_mustBeWord_0 ?_
  obtain ⟨a1, e1, H⟩ := wp_b H
  refine rc_V0i dX12_mustBeWord_1 ml_X12_127 mc_X12_isGood (c_X12_isGood e1) rfl rfl rfl (ok_M rfl) rfl rfl rfl ?_
  refine ar_if_eq 20 dX12_mustBeWord_4 (by decide) (fun c1 => ?_) (fun c1 => ?_)
  · replace H := wp_t c1 H
    replace H := wp_s H
    exact ar_vret dX12_mustBeWord_20 rfl H
  · replace H := wp_f c1 H
    refine rl_a0 dX12_mustBeWord_7 ?_
    refine ar_getI dX12_mustBeWord_8 fg_X12_114 rfl rfl (ok_M rfl) ?_
    refine ar_iconst (iI (1)) dX12_mustBeWord_11 rfl ?_
    refine ar_ic_eq 20 dX12_mustBeWord_12 (by decide) (fun c2 => ?_) (fun c2 => ?_)
    · replace H := wp_t c2 H
      replace H := wp_s H
      exact ar_vret dX12_mustBeWord_20 rfl H
    · replace H := wp_f c2 H
      refine rl_a0 dX12_mustBeWord_15 ?_
      refine ar_iconst (iI (1)) dX12_mustBeWord_16 rfl ?_
      obtain ⟨a2, e2, H⟩ := wp_b H
      refine rc_V1v dX12_mustBeWord_17 ml_X12_134 mc_X12_wrong (c_X12_wrong e2) rfl rfl rfl (ok_M rfl) rfl rfl rfl ?_
      replace H := wp_s H
      exact ar_vret dX12_mustBeWord_20 rfl H
noncomputable def s_X12_named  (h : am_H) : am_S Unit → Option (am_S Unit ⊕ Int32) := fun s => match s with
  | (4, [x1, x2], [], [], ()) => if ib (iI (2)) 408 then (if (h.1 (.inl 0) 2 ((iI (2))).toNatClampNeg) ≤ x2 then (some (.inr (x1))) else (if ib x2 6 then (if (lg_cmp (h.2.1 (.inl 0) 7 x2.toNatClampNeg) (h.2.1 (.inl 0) 0 12)) = 0 then (some (.inl (4, [x2, (x2 + 1)], [], [], ()))) else (some (.inl (4, [x1, (x2 + 1)], [], [], ())))) else none)) else none
  | _ => none
noncomputable def f_X12_named_4  (x1 : Int32) (x2 : Int32) (h : am_H) : Option Int32 := lp (s_X12_named h) (4, [x1, x2], [], [], ())
theorem e_X12_named_4  (x1 : Int32) (x2 : Int32) (h : am_H) : f_X12_named_4 x1 x2 h = (if ib (iI (2)) 408 then (if (h.1 (.inl 0) 2 ((iI (2))).toNatClampNeg) ≤ x2 then (some (x1)) else (if ib x2 6 then (if (lg_cmp (h.2.1 (.inl 0) 7 x2.toNatClampNeg) (h.2.1 (.inl 0) 0 12)) = 0 then (f_X12_named_4 x2 (x2 + 1) h) else (f_X12_named_4 x1 (x2 + 1) h)) else none)) else none) := by
  show lp _ _ = _
  rw [lp_eq, s_X12_named]
  simp only [lpk_i, lpk_b, lpk_l, lpk_n, lpk_j, lpk_r] <;> rfl
noncomputable def f_X12_named  (h : am_H) : Option Int32 :=
  f_X12_named_4 (iI (-1)) (iI (0)) h
theorem c_X12_named_L  {h : am_H} {Q : Option am_v → am_H → Prop} : ∀ s, wp (lp (s_X12_named h) s) (fun a => Q (some (am_i a)) h) → ((∀ x1 x2, s = (4, [x1, x2], [], [], ()) → am_V RX12 cX12_named 3 (some .int) 0 0 0 0 none (am_Tm cX12_named (some .int) Q) 0 0 4 [some (am_r (.inl 0) 0), some (am_i x1), some (am_i x2)] [] h)) := by
  refine lp_ind _ _ (fun s H => fun x1 x2 e => ?_)
  · subst e
    rw [s_X12_named] at H
    refine rl_i2 dX12_named_4 ?_
    refine rl_a0 dX12_named_5 ?_
    refine rg_R (.inl 0) 2 dX12_named_6 fg_X12_20 rfl rfl rfl (ok_M rfl) ?_
    refine ar_iconst (iI (2)) dX12_named_9 rfl ?_
    obtain ⟨b1, H⟩ := wp_g H
    refine ar_iald dX12_named_10 rfl (ok_M rfl) (ib_in b1) ?_
    refine ar_ic_ge 40 dX12_named_11 (by decide) (fun c1 => ?_) (fun c1 => ?_)
    · replace H := wp_t c1 H
      refine rl_i1 dX12_named_40 ?_
      replace H := lp_re H
      exact ar_iret dX12_named_41 rfl rfl H
    · replace H := wp_f c1 H
      refine rl_a0 dX12_named_14 ?_
      refine rg_R (.inl 0) 7 dX12_named_15 fg_X12_35 rfl rfl rfl (ok_M rfl) ?_
      refine rl_i2 dX12_named_18 ?_
      obtain ⟨b2, H⟩ := wp_g H
      refine ar_lald dX12_named_19 rfl (ok_M rfl) (ib_in b2) ?_
      refine rl_a0 dX12_named_20 ?_
      refine ar_getL dX12_named_21 fg_X12_107 rfl rfl (ok_M rfl) ?_
      refine ar_lcmp dX12_named_24 ?_
      refine ar_if_ne 32 dX12_named_25 (by decide) (fun c2 => ?_) (fun c2 => ?_)
      · replace H := wp_f c2 H
        refine rl_i1 dX12_named_32 ?_
        refine rs_i1 dX12_named_33 rfl trivial ?_
        refine rn_1_2 dX12_named_34 rfl trivial ?_
        refine ar_goto 4 dX12_named_37 (by decide) ?_
        exact am_V.wk (am_s (am_s (am_s am_0))) ((lp_in H) _ _ rfl)
      · replace H := wp_t c2 H
        refine rl_i2 dX12_named_28 ?_
        refine ar_goto 33 dX12_named_29 (by decide) ?_
        refine rs_i1 dX12_named_33 rfl trivial ?_
        refine rn_1_2 dX12_named_34 rfl trivial ?_
        refine ar_goto 4 dX12_named_37 (by decide) ?_
        exact am_V.wk (am_s (am_s (am_s am_0))) ((lp_in H) _ _ rfl)
theorem c_X12_named  {h : am_H} {a : Int32} (e : f_X12_named h = some a) : am_Mi yX12_named cX12_named 3 (some .int) 0 0 [am_r (.inl 0) 0] h a h := by
  refine am_M.ofi (A := [some (am_r (.inl 0) 0), none, none]) (by decide +kernel) rfl (ble rfl) (fun Q hQ => ?_)
  have H : wp (f_X12_named h) (fun a => Q (some (am_i a)) h) := ⟨a, e, hQ⟩
  unfold f_X12_named at H
  refine ar_iconst (iI (-1)) dX12_named_0 rfl ?_
  refine rs_i1 dX12_named_1 rfl trivial ?_
  refine ar_iconst (iI (0)) dX12_named_2 rfl ?_
  refine rs_i2 dX12_named_3 rfl trivial ?_
  exact am_V.wk (am_s (am_s (am_s am_0))) ((c_X12_named_L  _ H) _ _ rfl)
noncomputable def f_X12_readsOnce_39  (x1 : Int32) (x3 : Int32) (x4 : Int32) (h : am_H) : Option am_H :=
  (f_X12_number x3 x4 h).bind (fun a1 => (f_X12_isGood a1.2).bind (fun a2 => if a2 = 0 then (some (a1.2)) else (if ib x1 408 then (am_lt (am_u a1.2 (.inl 0) 2 x1.toNatClampNeg a1.1) (fun h1 => some (h1))) else none)))
noncomputable def f_X12_readsOnce_16  (x1 : Int32) (x2 : Int32) (x3 : Int32) (x4 : Int32) (h : am_H) : Option am_H :=
  am_lt (am_u h (.inl 0) 0 23 ((h.1 (.inl 0) 0 23) ||| ((iI (1)) <<< (x2 &&& 31)))) (fun h1 => (f_X12_isGood h1).bind (fun a1 => if a1 = 0 then (f_X12_readsOnce_39 x1 x3 x4 h1) else ((f_X12_goOn h1).bind (fun a2 => f_X12_readsOnce_39 x1 x3 x4 a2))))
noncomputable def f_X12_readsOnce (x1 : Int32) (x2 : Int32) (x3 : Int32) (x4 : Int32) (h : am_H) : Option am_H :=
  (f_X12_has (h.1 (.inl 0) 0 23) x2).bind (fun a1 => if a1 = 0 then (f_X12_readsOnce_16 x1 x2 x3 x4 h) else ((f_X12_wrong (iI (3)) h).bind (fun a2 => f_X12_readsOnce_16 x1 x2 x3 x4 a2)))
theorem c_X12_readsOnce_39  {x1 : Int32} {x3 : Int32} {x4 : Int32} {h : am_H} {Q : Option am_v → am_H → Prop} (H : wp (f_X12_readsOnce_39 x1 x3 x4 h) (fun a => Q none a)) : am_V RX12 cX12_readsOnce 6 (none) 3 70 0 0 none (am_Tm cX12_readsOnce (none) Q) 0 0 39 [some (am_r (.inl 0) 0), some (am_i x1), none, some (am_i x3), some (am_i x4), none] [] h := by
  unfold f_X12_readsOnce_39 at H
  refine rl_a0 dX12_readsOnce_39 ?_
  refine rl_i3 dX12_readsOnce_40 ?_
  refine rl_i4 dX12_readsOnce_41 ?_
  obtain ⟨a1, e1, H⟩ := wp_b H
  refine rc_V2i dX12_readsOnce_43 ml_X12_182 mc_X12_number (c_X12_number e1) rfl rfl rfl (ok_M rfl) rfl rfl rfl ?_
  refine rs_i5 dX12_readsOnce_46 rfl trivial ?_
  refine rl_a0 dX12_readsOnce_48 ?_
  obtain ⟨a2, e2, H⟩ := wp_b H
  refine rc_V0i dX12_readsOnce_49 ml_X12_127 mc_X12_isGood (c_X12_isGood e2) rfl rfl rfl (ok_M rfl) rfl rfl rfl ?_
  refine ar_if_eq 63 dX12_readsOnce_52 (by decide) (fun c1 => ?_) (fun c1 => ?_)
  · replace H := wp_t c1 H
    replace H := wp_s H
    exact ar_vret dX12_readsOnce_63 rfl H
  · replace H := wp_f c1 H
    refine rl_a0 dX12_readsOnce_55 ?_
    refine rg_R (.inl 0) 2 dX12_readsOnce_56 fg_X12_20 rfl rfl rfl (ok_M rfl) ?_
    refine rl_i1 dX12_readsOnce_59 ?_
    refine rl_i5 dX12_readsOnce_60 ?_
    obtain ⟨b1, H⟩ := wp_g H
    refine ar_iast dX12_readsOnce_62 rfl (ok_M rfl) (ib_in b1) ?_
    replace H := wp_l H
    generalize am_u a1.2 (.inl 0) 2 x1.toNatClampNeg a1.1 = h1 at H ⊢
    replace H := wp_s H
    exact ar_vret dX12_readsOnce_63 rfl H
theorem c_X12_readsOnce_16  {x1 : Int32} {x2 : Int32} {x3 : Int32} {x4 : Int32} {h : am_H} {Q : Option am_v → am_H → Prop} (H : wp (f_X12_readsOnce_16 x1 x2 x3 x4 h) (fun a => Q none a)) : am_V RX12 cX12_readsOnce 6 (none) 3 70 0 0 none (am_Tm cX12_readsOnce (none) Q) 0 0 16 [some (am_r (.inl 0) 0), some (am_i x1), some (am_i x2), some (am_i x3), some (am_i x4), none] [] h := by
  unfold f_X12_readsOnce_16 at H
  refine rl_a0 dX12_readsOnce_16 ?_
  refine ar_dup dX12_readsOnce_17 trivial ?_
  refine ar_getI dX12_readsOnce_18 fg_X12_175 rfl rfl (ok_M rfl) ?_
  refine ar_iconst (iI (1)) dX12_readsOnce_21 rfl ?_
  refine rl_i2 dX12_readsOnce_22 ?_
  refine ar_ishl dX12_readsOnce_23 ?_
  refine ar_ior dX12_readsOnce_24 ?_
  refine ar_putI dX12_readsOnce_25 fg_X12_175 rfl rfl (ok_M rfl) rfl rfl ?_
  replace H := wp_l H
  generalize am_u h (.inl 0) 0 23 ((h.1 (.inl 0) 0 23) ||| ((iI (1)) <<< (x2 &&& 31))) = h1 at H ⊢
  refine rl_a0 dX12_readsOnce_28 ?_
  obtain ⟨a1, e1, H⟩ := wp_b H
  refine rc_V0i dX12_readsOnce_29 ml_X12_127 mc_X12_isGood (c_X12_isGood e1) rfl rfl rfl (ok_M rfl) rfl rfl rfl ?_
  refine ar_if_eq 39 dX12_readsOnce_32 (by decide) (fun c1 => ?_) (fun c1 => ?_)
  · replace H := wp_t c1 H
    exact am_V.wk (am_s (am_s (am_n (am_s (am_s (am_n am_0)))))) (c_X12_readsOnce_39  H)
  · replace H := wp_f c1 H
    refine rl_a0 dX12_readsOnce_35 ?_
    obtain ⟨a2, e2, H⟩ := wp_b H
    refine rc_V0v dX12_readsOnce_36 ml_X12_137 mc_X12_goOn (c_X12_goOn e2) rfl rfl rfl (ok_M rfl) rfl rfl rfl ?_
    exact am_V.wk (am_s (am_s (am_n (am_s (am_s (am_n am_0)))))) (c_X12_readsOnce_39  H)
theorem c_X12_readsOnce {x1 : Int32} {x2 : Int32} {x3 : Int32} {x4 : Int32} {h : am_H} {a : am_H} (e : f_X12_readsOnce x1 x2 x3 x4 h = some a) : am_Mv yX12_readsOnce cX12_readsOnce 6 (none) 3 70 [am_r (.inl 0) 0, am_i x1, am_i x2, am_i x3, am_i x4] h a := by
  refine am_M.ofv (A := [some (am_r (.inl 0) 0), some (am_i x1), some (am_i x2), some (am_i x3), some (am_i x4), none]) (by decide +kernel) rfl (ble rfl) (fun Q hQ => ?_)
  have H : wp (f_X12_readsOnce x1 x2 x3 x4 h) (fun a => Q none a) := ⟨a, e, hQ⟩
  unfold f_X12_readsOnce at H
  refine rl_a0 dX12_readsOnce_0 ?_
  refine ar_getI dX12_readsOnce_1 fg_X12_175 rfl rfl (ok_M rfl) ?_
  refine rl_i2 dX12_readsOnce_4 ?_
  obtain ⟨a1, e1, H⟩ := wp_b H
  refine rc_S2i dX12_readsOnce_5 ml_X12_178 mc_X12_has (c_X12_has e1) rfl rfl rfl ?_
  refine ar_if_eq 16 dX12_readsOnce_8 (by decide) (fun c1 => ?_) (fun c1 => ?_)
  · replace H := wp_t c1 H
    exact am_V.wk (am_s (am_s (am_s (am_s (am_s (am_n am_0)))))) (c_X12_readsOnce_16  H)
  · replace H := wp_f c1 H
    refine rl_a0 dX12_readsOnce_11 ?_
    refine ar_iconst (iI (3)) dX12_readsOnce_12 rfl ?_
    obtain ⟨a2, e2, H⟩ := wp_b H
    refine rc_V1v dX12_readsOnce_13 ml_X12_134 mc_X12_wrong (c_X12_wrong e2) rfl rfl rfl (ok_M rfl) rfl rfl rfl ?_
    exact am_V.wk (am_s (am_s (am_s (am_s (am_s (am_n am_0)))))) (c_X12_readsOnce_16  H)
noncomputable def f_X12_readsArc_99  (x1 : Int32) (x2 : Int32) (x3 : Int32) (x4 : Int32) (y0 : Int32) (h : am_H) : Option am_H :=
  (f_X12_isGood h).bind (fun a1 => if a1 = 0 then (some (h)) else (if ib (((iI (12)) + ((iI (4)) * x1)) + (iI (0))) 408 then (am_lt (am_u h (.inl 0) 2 (((((iI (12)) + ((iI (4)) * x1)) + (iI (0)))).toNatClampNeg) x2) (fun h1 => if ib (((iI (12)) + ((iI (4)) * x1)) + (iI (1))) 408 then (am_lt (am_u h1 (.inl 0) 2 (((((iI (12)) + ((iI (4)) * x1)) + (iI (1)))).toNatClampNeg) x3) (fun h2 => (f_X12_truth x4).bind (fun a2 => if ib (((iI (12)) + ((iI (4)) * x1)) + (iI (2))) 408 then (am_lt (am_u h2 (.inl 0) 2 (((((iI (12)) + ((iI (4)) * x1)) + (iI (2)))).toNatClampNeg) a2) (fun h3 => if ib (((iI (12)) + ((iI (4)) * x1)) + (iI (3))) 408 then (am_lt (am_u h3 (.inl 0) 2 (((((iI (12)) + ((iI (4)) * x1)) + (iI (3)))).toNatClampNeg) y0) (fun h4 => if ib (iI (0)) 408 then (if ib (iI (0)) 408 then (am_lt (am_u h4 (.inl 0) 2 (((iI (0))).toNatClampNeg) ((h4.1 (.inl 0) 2 ((iI (0))).toNatClampNeg) + (iI (1)))) (fun h5 => some (h5))) else none) else none)) else none)) else none))) else none)) else none))
noncomputable def f_X12_readsArc_82  (x1 : Int32) (x2 : Int32) (x3 : Int32) (x4 : Int32) (x5 : Int32) (h : am_H) : Option am_H :=
  if x5 = 0 then (f_X12_readsArc_99 x1 x2 x3 x4 (iI (30)) h) else ((f_X12_number (iI (0)) (iI (99)) h).bind (fun a1 => f_X12_readsArc_99 x1 x2 x3 x4 a1.1 a1.2))
noncomputable def f_X12_readsArc_64  (x1 : Int32) (x2 : Int32) (x3 : Int32) (x4 : Int32) (h : am_H) : Option am_H :=
  (f_X12_isWord (263748 : Int64) h).bind (fun a1 => if a1 = 0 then (f_X12_readsArc_82 x1 x2 x3 x4 a1 h) else ((f_X12_goOn h).bind (fun a2 => f_X12_readsArc_82 x1 x2 x3 x4 a1 a2)))
noncomputable def f_X12_readsArc_29  (x1 : Int32) (h : am_H) : Option am_H :=
  (f_X12_number (iI (1)) (iI (99)) h).bind (fun a1 => (f_X12_number (iI (1)) (iI (180)) a1.2).bind (fun a2 => (f_X12_isWord (19176724 : Int64) a2.2).bind (fun a3 => if a3 = 0 then (f_X12_readsArc_64 x1 a1.1 a2.1 a3 a2.2) else ((f_X12_goOn a2.2).bind (fun a4 => f_X12_readsArc_64 x1 a1.1 a2.1 a3 a4)))))
noncomputable def f_X12_readsArc  (h : am_H) : Option am_H :=
  if ib (iI (0)) 408 then (if (h.1 (.inl 0) 2 ((iI (0))).toNatClampNeg) = (iI (8)) then ((f_X12_wrong (iI (5)) h).bind (fun a1 => (f_X12_isGood a1).bind (fun a2 => if a2 = 0 then (f_X12_readsArc_29 (h.1 (.inl 0) 2 ((iI (0))).toNatClampNeg) a1) else ((f_X12_goOn a1).bind (fun a3 => f_X12_readsArc_29 (h.1 (.inl 0) 2 ((iI (0))).toNatClampNeg) a3))))) else ((f_X12_isGood h).bind (fun a1 => if a1 = 0 then (f_X12_readsArc_29 (h.1 (.inl 0) 2 ((iI (0))).toNatClampNeg) h) else ((f_X12_goOn h).bind (fun a2 => f_X12_readsArc_29 (h.1 (.inl 0) 2 ((iI (0))).toNatClampNeg) a2))))) else none
theorem c_X12_readsArc_99  {x1 : Int32} {x2 : Int32} {x3 : Int32} {x4 : Int32} {y0 : Int32} {h : am_H} {Q : Option am_v → am_H → Prop} (H : wp (f_X12_readsArc_99 x1 x2 x3 x4 y0 h) (fun a => Q none a)) : am_V RX12 cX12_readsArc 7 (none) 3 70 0 0 none (am_Tm cX12_readsArc (none) Q) 0 0 99 [some (am_r (.inl 0) 0), some (am_i x1), some (am_i x2), some (am_i x3), some (am_i x4), none, none] [am_i y0] h := by
  unfold f_X12_readsArc_99 at H
  refine rs_i6 dX12_readsArc_99 rfl trivial ?_
  refine rl_a0 dX12_readsArc_101 ?_
  obtain ⟨a1, e1, H⟩ := wp_b H
  refine rc_V0i dX12_readsArc_102 ml_X12_127 mc_X12_isGood (c_X12_isGood e1) rfl rfl rfl (ok_M rfl) rfl rfl rfl ?_
  refine ar_if_ne 109 dX12_readsArc_105 (by decide) (fun c1 => ?_) (fun c1 => ?_)
  · replace H := wp_f c1 H
    refine rl_a0 dX12_readsArc_109 ?_
    refine rg_R (.inl 0) 2 dX12_readsArc_110 fg_X12_20 rfl rfl rfl (ok_M rfl) ?_
    refine ar_bipush (iI (12)) dX12_readsArc_113 rfl ?_
    refine ar_iconst (iI (4)) dX12_readsArc_115 rfl ?_
    refine rl_i1 dX12_readsArc_116 ?_
    refine ar_imul dX12_readsArc_117 ?_
    refine ar_iadd dX12_readsArc_118 ?_
    refine ar_iconst (iI (0)) dX12_readsArc_119 rfl ?_
    refine ar_iadd dX12_readsArc_120 ?_
    refine rl_i2 dX12_readsArc_121 ?_
    obtain ⟨b1, H⟩ := wp_g H
    refine ar_iast dX12_readsArc_122 rfl (ok_M rfl) (ib_in b1) ?_
    replace H := wp_l H
    generalize am_u h (.inl 0) 2 (((((iI (12)) + ((iI (4)) * x1)) + (iI (0)))).toNatClampNeg) x2 = h1 at H ⊢
    refine rl_a0 dX12_readsArc_123 ?_
    refine rg_R (.inl 0) 2 dX12_readsArc_124 fg_X12_20 rfl rfl rfl (ok_M rfl) ?_
    refine ar_bipush (iI (12)) dX12_readsArc_127 rfl ?_
    refine ar_iconst (iI (4)) dX12_readsArc_129 rfl ?_
    refine rl_i1 dX12_readsArc_130 ?_
    refine ar_imul dX12_readsArc_131 ?_
    refine ar_iadd dX12_readsArc_132 ?_
    refine ar_iconst (iI (1)) dX12_readsArc_133 rfl ?_
    refine ar_iadd dX12_readsArc_134 ?_
    refine rl_i3 dX12_readsArc_135 ?_
    obtain ⟨b2, H⟩ := wp_g H
    refine ar_iast dX12_readsArc_136 rfl (ok_M rfl) (ib_in b2) ?_
    replace H := wp_l H
    generalize am_u h1 (.inl 0) 2 (((((iI (12)) + ((iI (4)) * x1)) + (iI (1)))).toNatClampNeg) x3 = h2 at H ⊢
    refine rl_a0 dX12_readsArc_137 ?_
    refine rg_R (.inl 0) 2 dX12_readsArc_138 fg_X12_20 rfl rfl rfl (ok_M rfl) ?_
    refine ar_bipush (iI (12)) dX12_readsArc_141 rfl ?_
    refine ar_iconst (iI (4)) dX12_readsArc_143 rfl ?_
    refine rl_i1 dX12_readsArc_144 ?_
    refine ar_imul dX12_readsArc_145 ?_
    refine ar_iadd dX12_readsArc_146 ?_
    refine ar_iconst (iI (2)) dX12_readsArc_147 rfl ?_
    refine ar_iadd dX12_readsArc_148 ?_
    refine rl_i4 dX12_readsArc_149 ?_
    obtain ⟨a2, e2, H⟩ := wp_b H
    refine rc_S1i dX12_readsArc_151 ml_X12_75 mc_X12_truth (c_X12_truth e2) rfl rfl rfl ?_
    obtain ⟨b3, H⟩ := wp_g H
    refine ar_iast dX12_readsArc_154 rfl (ok_M rfl) (ib_in b3) ?_
    replace H := wp_l H
    generalize am_u h2 (.inl 0) 2 (((((iI (12)) + ((iI (4)) * x1)) + (iI (2)))).toNatClampNeg) a2 = h3 at H ⊢
    refine rl_a0 dX12_readsArc_155 ?_
    refine rg_R (.inl 0) 2 dX12_readsArc_156 fg_X12_20 rfl rfl rfl (ok_M rfl) ?_
    refine ar_bipush (iI (12)) dX12_readsArc_159 rfl ?_
    refine ar_iconst (iI (4)) dX12_readsArc_161 rfl ?_
    refine rl_i1 dX12_readsArc_162 ?_
    refine ar_imul dX12_readsArc_163 ?_
    refine ar_iadd dX12_readsArc_164 ?_
    refine ar_iconst (iI (3)) dX12_readsArc_165 rfl ?_
    refine ar_iadd dX12_readsArc_166 ?_
    refine rl_i6 dX12_readsArc_167 ?_
    obtain ⟨b4, H⟩ := wp_g H
    refine ar_iast dX12_readsArc_169 rfl (ok_M rfl) (ib_in b4) ?_
    replace H := wp_l H
    generalize am_u h3 (.inl 0) 2 (((((iI (12)) + ((iI (4)) * x1)) + (iI (3)))).toNatClampNeg) y0 = h4 at H ⊢
    refine rl_a0 dX12_readsArc_170 ?_
    refine rg_R (.inl 0) 2 dX12_readsArc_171 fg_X12_20 rfl rfl rfl (ok_M rfl) ?_
    refine ar_iconst (iI (0)) dX12_readsArc_174 rfl ?_
    refine ar_dup2 dX12_readsArc_175 trivial trivial ?_
    obtain ⟨b5, H⟩ := wp_g H
    refine ar_iald dX12_readsArc_176 rfl (ok_M rfl) (ib_in b5) ?_
    refine ar_iconst (iI (1)) dX12_readsArc_177 rfl ?_
    refine ar_iadd dX12_readsArc_178 ?_
    obtain ⟨b6, H⟩ := wp_g H
    refine ar_iast dX12_readsArc_179 rfl (ok_M rfl) (ib_in b6) ?_
    replace H := wp_l H
    generalize am_u h4 (.inl 0) 2 (((iI (0))).toNatClampNeg) ((h4.1 (.inl 0) 2 ((iI (0))).toNatClampNeg) + (iI (1))) = h5 at H ⊢
    replace H := wp_s H
    exact ar_vret dX12_readsArc_180 rfl H
  · replace H := wp_t c1 H
    replace H := wp_s H
    exact ar_vret dX12_readsArc_108 rfl H
theorem c_X12_readsArc_82  {x1 : Int32} {x2 : Int32} {x3 : Int32} {x4 : Int32} {x5 : Int32} {h : am_H} {Q : Option am_v → am_H → Prop} (H : wp (f_X12_readsArc_82 x1 x2 x3 x4 x5 h) (fun a => Q none a)) : am_V RX12 cX12_readsArc 7 (none) 3 70 0 0 none (am_Tm cX12_readsArc (none) Q) 0 0 82 [some (am_r (.inl 0) 0), some (am_i x1), some (am_i x2), some (am_i x3), some (am_i x4), some (am_i x5), none] [] h := by
  unfold f_X12_readsArc_82 at H
  refine rl_i5 dX12_readsArc_82 ?_
  refine ar_if_eq 97 dX12_readsArc_84 (by decide) (fun c1 => ?_) (fun c1 => ?_)
  · replace H := wp_t c1 H
    refine ar_bipush (iI (30)) dX12_readsArc_97 rfl ?_
    exact am_V.wk (am_s (am_s (am_s (am_s (am_s (am_n (am_n am_0))))))) (c_X12_readsArc_99  H)
  · replace H := wp_f c1 H
    refine rl_a0 dX12_readsArc_87 ?_
    refine ar_iconst (iI (0)) dX12_readsArc_88 rfl ?_
    refine ar_bipush (iI (99)) dX12_readsArc_89 rfl ?_
    obtain ⟨a1, e1, H⟩ := wp_b H
    refine rc_V2i dX12_readsArc_91 ml_X12_182 mc_X12_number (c_X12_number e1) rfl rfl rfl (ok_M rfl) rfl rfl rfl ?_
    refine ar_goto 99 dX12_readsArc_94 (by decide) ?_
    exact am_V.wk (am_s (am_s (am_s (am_s (am_s (am_n (am_n am_0))))))) (c_X12_readsArc_99  H)
theorem c_X12_readsArc_64  {x1 : Int32} {x2 : Int32} {x3 : Int32} {x4 : Int32} {h : am_H} {Q : Option am_v → am_H → Prop} (H : wp (f_X12_readsArc_64 x1 x2 x3 x4 h) (fun a => Q none a)) : am_V RX12 cX12_readsArc 7 (none) 3 70 0 0 none (am_Tm cX12_readsArc (none) Q) 0 0 64 [some (am_r (.inl 0) 0), some (am_i x1), some (am_i x2), some (am_i x3), some (am_i x4), none, none] [] h := by
  unfold f_X12_readsArc_64 at H
  refine rl_a0 dX12_readsArc_64 ?_
  refine ar_ldc2 (263748) dX12_readsArc_65 kc_X12_187 ?_
  obtain ⟨a1, e1, H⟩ := wp_b H
  refine rc_V1i dX12_readsArc_68 ml_X12_140 mc_X12_isWord (c_X12_isWord e1) rfl rfl rfl (ok_M rfl) rfl rfl rfl ?_
  refine rs_i5 dX12_readsArc_71 rfl trivial ?_
  refine rl_i5 dX12_readsArc_73 ?_
  refine ar_if_eq 82 dX12_readsArc_75 (by decide) (fun c1 => ?_) (fun c1 => ?_)
  · replace H := wp_t c1 H
    exact am_V.wk (am_s (am_s (am_s (am_s (am_s (am_s (am_n am_0))))))) (c_X12_readsArc_82  H)
  · replace H := wp_f c1 H
    refine rl_a0 dX12_readsArc_78 ?_
    obtain ⟨a2, e2, H⟩ := wp_b H
    refine rc_V0v dX12_readsArc_79 ml_X12_137 mc_X12_goOn (c_X12_goOn e2) rfl rfl rfl (ok_M rfl) rfl rfl rfl ?_
    exact am_V.wk (am_s (am_s (am_s (am_s (am_s (am_s (am_n am_0))))))) (c_X12_readsArc_82  H)
theorem c_X12_readsArc_29  {x1 : Int32} {h : am_H} {Q : Option am_v → am_H → Prop} (H : wp (f_X12_readsArc_29 x1 h) (fun a => Q none a)) : am_V RX12 cX12_readsArc 7 (none) 3 70 0 0 none (am_Tm cX12_readsArc (none) Q) 0 0 29 [some (am_r (.inl 0) 0), some (am_i x1), none, none, none, none, none] [] h := by
  unfold f_X12_readsArc_29 at H
  refine rl_a0 dX12_readsArc_29 ?_
  refine ar_iconst (iI (1)) dX12_readsArc_30 rfl ?_
  refine ar_bipush (iI (99)) dX12_readsArc_31 rfl ?_
  obtain ⟨a1, e1, H⟩ := wp_b H
  refine rc_V2i dX12_readsArc_33 ml_X12_182 mc_X12_number (c_X12_number e1) rfl rfl rfl (ok_M rfl) rfl rfl rfl ?_
  refine rs_i2 dX12_readsArc_36 rfl trivial ?_
  refine rl_a0 dX12_readsArc_37 ?_
  refine ar_iconst (iI (1)) dX12_readsArc_38 rfl ?_
  refine ar_sipush (iI (180)) dX12_readsArc_39 rfl ?_
  obtain ⟨a2, e2, H⟩ := wp_b H
  refine rc_V2i dX12_readsArc_42 ml_X12_182 mc_X12_number (c_X12_number e2) rfl rfl rfl (ok_M rfl) rfl rfl rfl ?_
  refine rs_i3 dX12_readsArc_45 rfl trivial ?_
  refine rl_a0 dX12_readsArc_46 ?_
  refine ar_ldc2 (19176724) dX12_readsArc_47 kc_X12_185 ?_
  obtain ⟨a3, e3, H⟩ := wp_b H
  refine rc_V1i dX12_readsArc_50 ml_X12_140 mc_X12_isWord (c_X12_isWord e3) rfl rfl rfl (ok_M rfl) rfl rfl rfl ?_
  refine rs_i4 dX12_readsArc_53 rfl trivial ?_
  refine rl_i4 dX12_readsArc_55 ?_
  refine ar_if_eq 64 dX12_readsArc_57 (by decide) (fun c1 => ?_) (fun c1 => ?_)
  · replace H := wp_t c1 H
    exact am_V.wk (am_s (am_s (am_s (am_s (am_s (am_n (am_n am_0))))))) (c_X12_readsArc_64  H)
  · replace H := wp_f c1 H
    refine rl_a0 dX12_readsArc_60 ?_
    obtain ⟨a4, e4, H⟩ := wp_b H
    refine rc_V0v dX12_readsArc_61 ml_X12_137 mc_X12_goOn (c_X12_goOn e4) rfl rfl rfl (ok_M rfl) rfl rfl rfl ?_
    exact am_V.wk (am_s (am_s (am_s (am_s (am_s (am_n (am_n am_0))))))) (c_X12_readsArc_64  H)
theorem c_X12_readsArc  {h : am_H} {a : am_H} (e : f_X12_readsArc h = some a) : am_Mv yX12_readsArc cX12_readsArc 7 (none) 3 70 [am_r (.inl 0) 0] h a := by
  refine am_M.ofv (A := [some (am_r (.inl 0) 0), none, none, none, none, none, none]) (by decide +kernel) rfl (ble rfl) (fun Q hQ => ?_)
  have H : wp (f_X12_readsArc h) (fun a => Q none a) := ⟨a, e, hQ⟩
  unfold f_X12_readsArc at H
  refine rl_a0 dX12_readsArc_0 ?_
  refine rg_R (.inl 0) 2 dX12_readsArc_1 fg_X12_20 rfl rfl rfl (ok_M rfl) ?_
  refine ar_iconst (iI (0)) dX12_readsArc_4 rfl ?_
  obtain ⟨b1, H⟩ := wp_g H
  refine ar_iald dX12_readsArc_5 rfl (ok_M rfl) (ib_in b1) ?_
  refine rs_i1 dX12_readsArc_6 rfl trivial ?_
  refine rl_i1 dX12_readsArc_7 ?_
  refine ar_bipush (iI (8)) dX12_readsArc_8 rfl ?_
  refine ar_ic_ne 18 dX12_readsArc_10 (by decide) (fun c1 => ?_) (fun c1 => ?_)
  · replace H := wp_f c1 H
    refine rl_a0 dX12_readsArc_18 ?_
    obtain ⟨a1, e1, H⟩ := wp_b H
    refine rc_V0i dX12_readsArc_19 ml_X12_127 mc_X12_isGood (c_X12_isGood e1) rfl rfl rfl (ok_M rfl) rfl rfl rfl ?_
    refine ar_if_eq 29 dX12_readsArc_22 (by decide) (fun c2 => ?_) (fun c2 => ?_)
    · replace H := wp_t c2 H
      exact am_V.wk (am_s (am_s (am_n (am_n (am_n (am_n (am_n am_0))))))) (c_X12_readsArc_29  H)
    · replace H := wp_f c2 H
      refine rl_a0 dX12_readsArc_25 ?_
      obtain ⟨a2, e2, H⟩ := wp_b H
      refine rc_V0v dX12_readsArc_26 ml_X12_137 mc_X12_goOn (c_X12_goOn e2) rfl rfl rfl (ok_M rfl) rfl rfl rfl ?_
      exact am_V.wk (am_s (am_s (am_n (am_n (am_n (am_n (am_n am_0))))))) (c_X12_readsArc_29  H)
  · replace H := wp_t c1 H
    refine rl_a0 dX12_readsArc_13 ?_
    refine ar_iconst (iI (5)) dX12_readsArc_14 rfl ?_
    obtain ⟨a1, e1, H⟩ := wp_b H
    refine rc_V1v dX12_readsArc_15 ml_X12_134 mc_X12_wrong (c_X12_wrong e1) rfl rfl rfl (ok_M rfl) rfl rfl rfl ?_
    refine rl_a0 dX12_readsArc_18 ?_
    obtain ⟨a2, e2, H⟩ := wp_b H
    refine rc_V0i dX12_readsArc_19 ml_X12_127 mc_X12_isGood (c_X12_isGood e2) rfl rfl rfl (ok_M rfl) rfl rfl rfl ?_
    refine ar_if_eq 29 dX12_readsArc_22 (by decide) (fun c2 => ?_) (fun c2 => ?_)
    · replace H := wp_t c2 H
      exact am_V.wk (am_s (am_s (am_n (am_n (am_n (am_n (am_n am_0))))))) (c_X12_readsArc_29  H)
    · replace H := wp_f c2 H
      refine rl_a0 dX12_readsArc_25 ?_
      obtain ⟨a3, e3, H⟩ := wp_b H
      refine rc_V0v dX12_readsArc_26 ml_X12_137 mc_X12_goOn (c_X12_goOn e3) rfl rfl rfl (ok_M rfl) rfl rfl rfl ?_
      exact am_V.wk (am_s (am_s (am_n (am_n (am_n (am_n (am_n am_0))))))) (c_X12_readsArc_29  H)
noncomputable def f_X12_addsLetter (x1 : Int32) (h : am_H) : Option am_H :=
  if ib (iI (1)) 408 then ((f_X12_setsLetter (h.1 (.inl 0) 2 ((iI (1))).toNatClampNeg) (iI (0)) x1 h).bind (fun a1 => (f_X12_setsLetter (h.1 (.inl 0) 2 ((iI (1))).toNatClampNeg) (iI (1)) (iI (0)) a1).bind (fun a2 => (f_X12_setsLetter (h.1 (.inl 0) 2 ((iI (1))).toNatClampNeg) (iI (2)) (iI (0)) a2).bind (fun a3 => if ib (iI (1)) 408 then (if ib (iI (1)) 408 then (am_lt (am_u a3 (.inl 0) 2 (((iI (1))).toNatClampNeg) ((a3.1 (.inl 0) 2 ((iI (1))).toNatClampNeg) + (iI (1)))) (fun h1 => some (h1))) else none) else none)))) else none
theorem c_X12_addsLetter {x1 : Int32} {h : am_H} {a : am_H} (e : f_X12_addsLetter x1 h = some a) : am_Mv yX12_addsLetter cX12_addsLetter 3 (none) 1 23 [am_r (.inl 0) 0, am_i x1] h a := by
  refine am_M.ofv (A := [some (am_r (.inl 0) 0), some (am_i x1), none]) (by decide +kernel) rfl (ble rfl) (fun Q hQ => ?_)
  have H : wp (f_X12_addsLetter x1 h) (fun a => Q none a) := ⟨a, e, hQ⟩
  unfold f_X12_addsLetter at H
  refine rl_a0 dX12_addsLetter_0 ?_
  refine rg_R (.inl 0) 2 dX12_addsLetter_1 fg_X12_20 rfl rfl rfl (ok_M rfl) ?_
  refine ar_iconst (iI (1)) dX12_addsLetter_4 rfl ?_
  obtain ⟨b1, H⟩ := wp_g H
  refine ar_iald dX12_addsLetter_5 rfl (ok_M rfl) (ib_in b1) ?_
  refine rs_i2 dX12_addsLetter_6 rfl trivial ?_
  refine rl_a0 dX12_addsLetter_7 ?_
  refine rl_i2 dX12_addsLetter_8 ?_
  refine ar_iconst (iI (0)) dX12_addsLetter_9 rfl ?_
  refine rl_i1 dX12_addsLetter_10 ?_
  obtain ⟨a1, e1, H⟩ := wp_b H
  refine rc_V3v dX12_addsLetter_11 ml_X12_189 mc_X12_setsLetter (c_X12_setsLetter e1) rfl rfl rfl (ok_M rfl) rfl rfl rfl ?_
  refine rl_a0 dX12_addsLetter_14 ?_
  refine rl_i2 dX12_addsLetter_15 ?_
  refine ar_iconst (iI (1)) dX12_addsLetter_16 rfl ?_
  refine ar_iconst (iI (0)) dX12_addsLetter_17 rfl ?_
  obtain ⟨a2, e2, H⟩ := wp_b H
  refine rc_V3v dX12_addsLetter_18 ml_X12_189 mc_X12_setsLetter (c_X12_setsLetter e2) rfl rfl rfl (ok_M rfl) rfl rfl rfl ?_
  refine rl_a0 dX12_addsLetter_21 ?_
  refine rl_i2 dX12_addsLetter_22 ?_
  refine ar_iconst (iI (2)) dX12_addsLetter_23 rfl ?_
  refine ar_iconst (iI (0)) dX12_addsLetter_24 rfl ?_
  obtain ⟨a3, e3, H⟩ := wp_b H
  refine rc_V3v dX12_addsLetter_25 ml_X12_189 mc_X12_setsLetter (c_X12_setsLetter e3) rfl rfl rfl (ok_M rfl) rfl rfl rfl ?_
  refine rl_a0 dX12_addsLetter_28 ?_
  refine rg_R (.inl 0) 2 dX12_addsLetter_29 fg_X12_20 rfl rfl rfl (ok_M rfl) ?_
  refine ar_iconst (iI (1)) dX12_addsLetter_32 rfl ?_
  refine ar_dup2 dX12_addsLetter_33 trivial trivial ?_
  obtain ⟨b2, H⟩ := wp_g H
  refine ar_iald dX12_addsLetter_34 rfl (ok_M rfl) (ib_in b2) ?_
  refine ar_iconst (iI (1)) dX12_addsLetter_35 rfl ?_
  refine ar_iadd dX12_addsLetter_36 ?_
  obtain ⟨b3, H⟩ := wp_g H
  refine ar_iast dX12_addsLetter_37 rfl (ok_M rfl) (ib_in b3) ?_
  replace H := wp_l H
  generalize am_u a3 (.inl 0) 2 (((iI (1))).toNatClampNeg) ((a3.1 (.inl 0) 2 ((iI (1))).toNatClampNeg) + (iI (1))) = h1 at H ⊢
  replace H := wp_s H
  exact ar_vret dX12_addsLetter_38 rfl H
noncomputable def s_X12_addsWord  : am_S am_H → Option (am_S am_H ⊕ am_H) := fun s => match s with
  | (2, [x3], [x1], [], h) => (f_X12_lettersOf x1).bind (fun a1 => if a1 ≤ x3 then (some (.inr (h))) else ((f_X12_letterOf x1 x3).bind (fun a2 => (f_X12_addsLetter (a2 - (iI (97))) h).bind (fun a3 => some (.inl (2, [(x3 + 1)], [x1], [], a3))))))
  | _ => none
noncomputable def f_X12_addsWord_2  (x1 : Int64) (x3 : Int32) (h : am_H) : Option am_H := lp (s_X12_addsWord) (2, [x3], [x1], [], h)
theorem e_X12_addsWord_2  (x1 : Int64) (x3 : Int32) (h : am_H) : f_X12_addsWord_2 x1 x3 h = ((f_X12_lettersOf x1).bind (fun a1 => if a1 ≤ x3 then (some (h)) else ((f_X12_letterOf x1 x3).bind (fun a2 => (f_X12_addsLetter (a2 - (iI (97))) h).bind (fun a3 => f_X12_addsWord_2 x1 (x3 + 1) a3))))) := by
  show lp _ _ = _
  rw [lp_eq, s_X12_addsWord]
  simp only [lpk_i, lpk_b, lpk_l, lpk_n, lpk_j, lpk_r] <;> rfl
noncomputable def f_X12_addsWord (x1 : Int64) (h : am_H) : Option am_H :=
  f_X12_addsWord_2 x1 (iI (0)) h
theorem c_X12_addsWord_L  {Q : Option am_v → am_H → Prop} : ∀ s, wp (lp (s_X12_addsWord) s) (fun a => Q none a) → ((∀ x1 x3 h, s = (2, [x3], [x1], [], h) → am_V RX12 cX12_addsWord 4 (none) 2 48 0 0 none (am_Tm cX12_addsWord (none) Q) 0 0 2 [some (am_r (.inl 0) 0), some (am_l x1), none, some (am_i x3)] [] h)) := by
  refine lp_ind _ _ (fun s H => fun x1 x3 h e => ?_)
  · subst e
    rw [s_X12_addsWord] at H
    refine rl_i3 dX12_addsWord_2 ?_
    refine rl_l1 dX12_addsWord_3 ?_
    obtain ⟨a1, e1, H⟩ := wp_b H
    refine rc_S1i dX12_addsWord_4 ml_X12_169 mc_X12_lettersOf (c_X12_lettersOf e1) rfl rfl rfl ?_
    refine ar_ic_ge 28 dX12_addsWord_7 (by decide) (fun c1 => ?_) (fun c1 => ?_)
    · replace H := wp_t c1 H
      replace H := lp_re H
      exact ar_vret dX12_addsWord_28 rfl H
    · replace H := wp_f c1 H
      refine rl_a0 dX12_addsWord_10 ?_
      refine rl_l1 dX12_addsWord_11 ?_
      refine rl_i3 dX12_addsWord_12 ?_
      obtain ⟨a2, e2, H⟩ := wp_b H
      refine rc_S2i dX12_addsWord_13 ml_X12_193 mc_X12_letterOf (c_X12_letterOf e2) rfl rfl rfl ?_
      refine ar_bipush (iI (97)) dX12_addsWord_16 rfl ?_
      refine ar_isub dX12_addsWord_18 ?_
      obtain ⟨a3, e3, H⟩ := wp_b H
      refine rc_V1v dX12_addsWord_19 ml_X12_197 mc_X12_addsLetter (c_X12_addsLetter e3) rfl rfl rfl (ok_M rfl) rfl rfl rfl ?_
      refine rn_1_3 dX12_addsWord_22 rfl trivial ?_
      refine ar_goto 2 dX12_addsWord_25 (by decide) ?_
      exact am_V.wk (am_s (am_s (am_n (am_s am_0)))) ((lp_in H) _ _ _ rfl)
theorem c_X12_addsWord {x1 : Int64} {h : am_H} {a : am_H} (e : f_X12_addsWord x1 h = some a) : am_Mv yX12_addsWord cX12_addsWord 4 (none) 2 48 [am_r (.inl 0) 0, am_l x1] h a := by
  refine am_M.ofv (A := [some (am_r (.inl 0) 0), some (am_l x1), none, none]) (by decide +kernel) rfl (ble rfl) (fun Q hQ => ?_)
  have H : wp (f_X12_addsWord x1 h) (fun a => Q none a) := ⟨a, e, hQ⟩
  unfold f_X12_addsWord at H
  refine ar_iconst (iI (0)) dX12_addsWord_0 rfl ?_
  refine rs_i3 dX12_addsWord_1 rfl trivial ?_
  exact am_V.wk (am_s (am_s (am_n (am_s am_0)))) ((c_X12_addsWord_L  _ H) _ _ _ rfl)
noncomputable def f_X12_readsName_39   (h : am_H) : Option am_H :=
  (f_X12_isGood h).bind (fun a1 => if a1 = 0 then (some (h)) else ((f_X12_addsWord (h.2.1 (.inl 0) 0 12) h).bind (fun a2 => (f_X12_goOn a2).bind (fun a3 => some (a3)))))
noncomputable def f_X12_readsName  (h : am_H) : Option am_H :=
  (f_X12_goOn h).bind (fun a1 => (f_X12_mustBeWord a1).bind (fun a2 => (f_X12_isGood a2).bind (fun a3 => if a3 = 0 then (f_X12_readsName_39 a2) else (if ib (iI (1)) 408 then ((f_X12_lettersOf (a2.2.1 (.inl 0) 0 12)).bind (fun a4 => if ((a2.1 (.inl 0) 2 ((iI (1))).toNatClampNeg) + a4) ≤ (iI (20)) then (f_X12_readsName_39 a2) else ((f_X12_wrong (iI (5)) a2).bind (fun a5 => f_X12_readsName_39 a5)))) else none))))
theorem c_X12_readsName_39   {h : am_H} {Q : Option am_v → am_H → Prop} (H : wp (f_X12_readsName_39 h) (fun a => Q none a)) : am_V RX12 cX12_readsName 1 (none) 3 71 0 0 none (am_Tm cX12_readsName (none) Q) 0 0 39 [some (am_r (.inl 0) 0)] [] h := by
  unfold f_X12_readsName_39 at H
  refine rl_a0 dX12_readsName_39 ?_
  obtain ⟨a1, e1, H⟩ := wp_b H
  refine rc_V0i dX12_readsName_40 ml_X12_127 mc_X12_isGood (c_X12_isGood e1) rfl rfl rfl (ok_M rfl) rfl rfl rfl ?_
  refine ar_if_ne 47 dX12_readsName_43 (by decide) (fun c1 => ?_) (fun c1 => ?_)
  · replace H := wp_f c1 H
    refine rl_a0 dX12_readsName_47 ?_
    refine rl_a0 dX12_readsName_48 ?_
    refine ar_getL dX12_readsName_49 fg_X12_107 rfl rfl (ok_M rfl) ?_
    obtain ⟨a2, e2, H⟩ := wp_b H
    refine rc_V1v dX12_readsName_52 ml_X12_203 mc_X12_addsWord (c_X12_addsWord e2) rfl rfl rfl (ok_M rfl) rfl rfl rfl ?_
    refine rl_a0 dX12_readsName_55 ?_
    obtain ⟨a3, e3, H⟩ := wp_b H
    refine rc_V0v dX12_readsName_56 ml_X12_137 mc_X12_goOn (c_X12_goOn e3) rfl rfl rfl (ok_M rfl) rfl rfl rfl ?_
    replace H := wp_s H
    exact ar_vret dX12_readsName_59 rfl H
  · replace H := wp_t c1 H
    replace H := wp_s H
    exact ar_vret dX12_readsName_46 rfl H
theorem c_X12_readsName  {h : am_H} {a : am_H} (e : f_X12_readsName h = some a) : am_Mv yX12_readsName cX12_readsName 1 (none) 3 71 [am_r (.inl 0) 0] h a := by
  refine am_M.ofv (A := [some (am_r (.inl 0) 0)]) (by decide +kernel) rfl (ble rfl) (fun Q hQ => ?_)
  have H : wp (f_X12_readsName h) (fun a => Q none a) := ⟨a, e, hQ⟩
  unfold f_X12_readsName at H
  refine rl_a0 dX12_readsName_0 ?_
  obtain ⟨a1, e1, H⟩ := wp_b H
  refine rc_V0v dX12_readsName_1 ml_X12_137 mc_X12_goOn (c_X12_goOn e1) rfl rfl rfl (ok_M rfl) rfl rfl rfl ?_
  refine rl_a0 dX12_readsName_4 ?_
  obtain ⟨a2, e2, H⟩ := wp_b H
  refine rc_V0v dX12_readsName_5 ml_X12_200 mc_X12_mustBeWord (c_X12_mustBeWord e2) rfl rfl rfl (ok_M rfl) rfl rfl rfl ?_
  refine rl_a0 dX12_readsName_8 ?_
  obtain ⟨a3, e3, H⟩ := wp_b H
  refine rc_V0i dX12_readsName_9 ml_X12_127 mc_X12_isGood (c_X12_isGood e3) rfl rfl rfl (ok_M rfl) rfl rfl rfl ?_
  refine ar_if_eq 39 dX12_readsName_12 (by decide) (fun c1 => ?_) (fun c1 => ?_)
  · replace H := wp_t c1 H
    exact am_V.wk (am_s am_0) (c_X12_readsName_39  H)
  · replace H := wp_f c1 H
    refine rl_a0 dX12_readsName_15 ?_
    refine rg_R (.inl 0) 2 dX12_readsName_16 fg_X12_20 rfl rfl rfl (ok_M rfl) ?_
    refine ar_iconst (iI (1)) dX12_readsName_19 rfl ?_
    obtain ⟨b1, H⟩ := wp_g H
    refine ar_iald dX12_readsName_20 rfl (ok_M rfl) (ib_in b1) ?_
    refine rl_a0 dX12_readsName_21 ?_
    refine ar_getL dX12_readsName_22 fg_X12_107 rfl rfl (ok_M rfl) ?_
    obtain ⟨a4, e4, H⟩ := wp_b H
    refine rc_S1i dX12_readsName_25 ml_X12_169 mc_X12_lettersOf (c_X12_lettersOf e4) rfl rfl rfl ?_
    refine ar_iadd dX12_readsName_28 ?_
    refine ar_bipush (iI (20)) dX12_readsName_29 rfl ?_
    refine ar_ic_le 39 dX12_readsName_31 (by decide) (fun c2 => ?_) (fun c2 => ?_)
    · replace H := wp_t c2 H
      exact am_V.wk (am_s am_0) (c_X12_readsName_39  H)
    · replace H := wp_f c2 H
      refine rl_a0 dX12_readsName_34 ?_
      refine ar_iconst (iI (5)) dX12_readsName_35 rfl ?_
      obtain ⟨a5, e5, H⟩ := wp_b H
      refine rc_V1v dX12_readsName_36 ml_X12_134 mc_X12_wrong (c_X12_wrong e5) rfl rfl rfl (ok_M rfl) rfl rfl rfl ?_
      exact am_V.wk (am_s am_0) (c_X12_readsName_39  H)
noncomputable def s_X12_readsWide  : am_S am_H → Option (am_S am_H ⊕ am_H) := fun s => match s with
  | (24, [], [x1], [], h) => (f_X12_number (iI (1)) (iI (99)) h).bind (fun a1 => (f_X12_isGood a1.2).bind (fun a2 => if a2 = 0 then (some (.inr (a1.2))) else (some (.inl (43, [a1.1, (iI (0))], [x1], [], a1.2)))))
  | (43, [x3, x4], [x1], [], h) => (f_X12_lettersOf x1).bind (fun a1 => if a1 ≤ x4 then (some (.inr (h))) else ((f_X12_letterOf x1 x4).bind (fun a2 => if ib (((iI (104)) + a2) - (iI (97))) 408 then (am_lt (am_u h (.inl 0) 2 (((((iI (104)) + a2) - (iI (97)))).toNatClampNeg) x3) (fun h1 => some (.inl (43, [x3, (x4 + 1)], [x1], [], h1)))) else none)))
  | _ => none
noncomputable def f_X12_readsWide_24  (x1 : Int64) (h : am_H) : Option am_H := lp (s_X12_readsWide) (24, [], [x1], [], h)
noncomputable def f_X12_readsWide_43  (x1 : Int64) (x3 : Int32) (x4 : Int32) (h : am_H) : Option am_H := lp (s_X12_readsWide) (43, [x3, x4], [x1], [], h)
theorem e_X12_readsWide_24  (x1 : Int64) (h : am_H) : f_X12_readsWide_24 x1 h = ((f_X12_number (iI (1)) (iI (99)) h).bind (fun a1 => (f_X12_isGood a1.2).bind (fun a2 => if a2 = 0 then (some (a1.2)) else (f_X12_readsWide_43 x1 a1.1 (iI (0)) a1.2)))) := by
  show lp _ _ = _
  rw [lp_eq, s_X12_readsWide]
  simp only [lpk_i, lpk_b, lpk_l, lpk_n, lpk_j, lpk_r] <;> rfl
theorem e_X12_readsWide_43  (x1 : Int64) (x3 : Int32) (x4 : Int32) (h : am_H) : f_X12_readsWide_43 x1 x3 x4 h = ((f_X12_lettersOf x1).bind (fun a1 => if a1 ≤ x4 then (some (h)) else ((f_X12_letterOf x1 x4).bind (fun a2 => if ib (((iI (104)) + a2) - (iI (97))) 408 then (am_lt (am_u h (.inl 0) 2 (((((iI (104)) + a2) - (iI (97)))).toNatClampNeg) x3) (fun h1 => f_X12_readsWide_43 x1 x3 (x4 + 1) h1)) else none)))) := by
  show lp _ _ = _
  rw [lp_eq, s_X12_readsWide]
  simp only [lpk_i, lpk_b, lpk_l, lpk_n, lpk_j, lpk_r] <;> rfl
noncomputable def f_X12_readsWide  (h : am_H) : Option am_H :=
  (f_X12_goOn h).bind (fun a1 => (f_X12_mustBeWord a1).bind (fun a2 => (f_X12_isGood a2).bind (fun a3 => if a3 = 0 then (f_X12_readsWide_24 (a2.2.1 (.inl 0) 0 12) a2) else ((f_X12_goOn a2).bind (fun a4 => f_X12_readsWide_24 (a2.2.1 (.inl 0) 0 12) a4)))))
theorem c_X12_readsWide_L  {Q : Option am_v → am_H → Prop} : ∀ s, wp (lp (s_X12_readsWide) s) (fun a => Q none a) → ((∀ x1 h, s = (24, [], [x1], [], h) → am_V RX12 cX12_readsWide 5 (none) 3 70 0 0 none (am_Tm cX12_readsWide (none) Q) 0 0 24 [some (am_r (.inl 0) 0), some (am_l x1), none, none, none] [] h) ∧ (∀ x1 x3 x4 h, s = (43, [x3, x4], [x1], [], h) → am_V RX12 cX12_readsWide 5 (none) 3 70 0 0 none (am_Tm cX12_readsWide (none) Q) 0 0 43 [some (am_r (.inl 0) 0), some (am_l x1), none, some (am_i x3), some (am_i x4)] [] h)) := by
  refine lp_ind _ _ (fun s H => ⟨fun x1 h e => ?_, fun x1 x3 x4 h e => ?_⟩)
  · subst e
    rw [s_X12_readsWide] at H
    refine rl_a0 dX12_readsWide_24 ?_
    refine ar_iconst (iI (1)) dX12_readsWide_25 rfl ?_
    refine ar_bipush (iI (99)) dX12_readsWide_26 rfl ?_
    obtain ⟨a1, e1, H⟩ := wp_b H
    refine rc_V2i dX12_readsWide_28 ml_X12_182 mc_X12_number (c_X12_number e1) rfl rfl rfl (ok_M rfl) rfl rfl rfl ?_
    refine rs_i3 dX12_readsWide_31 rfl trivial ?_
    refine rl_a0 dX12_readsWide_32 ?_
    obtain ⟨a2, e2, H⟩ := wp_b H
    refine rc_V0i dX12_readsWide_33 ml_X12_127 mc_X12_isGood (c_X12_isGood e2) rfl rfl rfl (ok_M rfl) rfl rfl rfl ?_
    refine ar_if_ne 40 dX12_readsWide_36 (by decide) (fun c1 => ?_) (fun c1 => ?_)
    · replace H := wp_f c1 H
      refine ar_iconst (iI (0)) dX12_readsWide_40 rfl ?_
      refine rs_i4 dX12_readsWide_41 rfl trivial ?_
      exact am_V.wk (am_s (am_s (am_n (am_s (am_s am_0))))) ((lp_in H).2 _ _ _ _ rfl)
    · replace H := wp_t c1 H
      replace H := lp_re H
      exact ar_vret dX12_readsWide_39 rfl H
  · subst e
    rw [s_X12_readsWide] at H
    refine rl_i4 dX12_readsWide_43 ?_
    refine rl_l1 dX12_readsWide_45 ?_
    obtain ⟨a1, e1, H⟩ := wp_b H
    refine rc_S1i dX12_readsWide_46 ml_X12_169 mc_X12_lettersOf (c_X12_lettersOf e1) rfl rfl rfl ?_
    refine ar_ic_ge 76 dX12_readsWide_49 (by decide) (fun c1 => ?_) (fun c1 => ?_)
    · replace H := wp_t c1 H
      replace H := lp_re H
      exact ar_vret dX12_readsWide_76 rfl H
    · replace H := wp_f c1 H
      refine rl_a0 dX12_readsWide_52 ?_
      refine rg_R (.inl 0) 2 dX12_readsWide_53 fg_X12_20 rfl rfl rfl (ok_M rfl) ?_
      refine ar_bipush (iI (104)) dX12_readsWide_56 rfl ?_
      refine rl_l1 dX12_readsWide_58 ?_
      refine rl_i4 dX12_readsWide_59 ?_
      obtain ⟨a2, e2, H⟩ := wp_b H
      refine rc_S2i dX12_readsWide_61 ml_X12_193 mc_X12_letterOf (c_X12_letterOf e2) rfl rfl rfl ?_
      refine ar_iadd dX12_readsWide_64 ?_
      refine ar_bipush (iI (97)) dX12_readsWide_65 rfl ?_
      refine ar_isub dX12_readsWide_67 ?_
      refine rl_i3 dX12_readsWide_68 ?_
      obtain ⟨b1, H⟩ := wp_g H
      refine ar_iast dX12_readsWide_69 rfl (ok_M rfl) (ib_in b1) ?_
      replace H := wp_l H
      generalize am_u h (.inl 0) 2 (((((iI (104)) + a2) - (iI (97)))).toNatClampNeg) x3 = h1 at H ⊢
      refine rn_1_4 dX12_readsWide_70 rfl trivial ?_
      refine ar_goto 43 dX12_readsWide_73 (by decide) ?_
      exact am_V.wk (am_s (am_s (am_n (am_s (am_s am_0))))) ((lp_in H).2 _ _ _ _ rfl)
theorem c_X12_readsWide  {h : am_H} {a : am_H} (e : f_X12_readsWide h = some a) : am_Mv yX12_readsWide cX12_readsWide 5 (none) 3 70 [am_r (.inl 0) 0] h a := by
  refine am_M.ofv (A := [some (am_r (.inl 0) 0), none, none, none, none]) (by decide +kernel) rfl (ble rfl) (fun Q hQ => ?_)
  have H : wp (f_X12_readsWide h) (fun a => Q none a) := ⟨a, e, hQ⟩
  unfold f_X12_readsWide at H
  refine rl_a0 dX12_readsWide_0 ?_
  obtain ⟨a1, e1, H⟩ := wp_b H
  refine rc_V0v dX12_readsWide_1 ml_X12_137 mc_X12_goOn (c_X12_goOn e1) rfl rfl rfl (ok_M rfl) rfl rfl rfl ?_
  refine rl_a0 dX12_readsWide_4 ?_
  obtain ⟨a2, e2, H⟩ := wp_b H
  refine rc_V0v dX12_readsWide_5 ml_X12_200 mc_X12_mustBeWord (c_X12_mustBeWord e2) rfl rfl rfl (ok_M rfl) rfl rfl rfl ?_
  refine rl_a0 dX12_readsWide_8 ?_
  refine ar_getL dX12_readsWide_9 fg_X12_107 rfl rfl (ok_M rfl) ?_
  refine rs_l1 dX12_readsWide_12 rfl trivial ?_
  refine rl_a0 dX12_readsWide_13 ?_
  obtain ⟨a3, e3, H⟩ := wp_b H
  refine rc_V0i dX12_readsWide_14 ml_X12_127 mc_X12_isGood (c_X12_isGood e3) rfl rfl rfl (ok_M rfl) rfl rfl rfl ?_
  refine ar_if_eq 24 dX12_readsWide_17 (by decide) (fun c1 => ?_) (fun c1 => ?_)
  · replace H := wp_t c1 H
    exact am_V.wk (am_s (am_s (am_n (am_n (am_n am_0))))) ((c_X12_readsWide_L  _ H).1 _ _ rfl)
  · replace H := wp_f c1 H
    refine rl_a0 dX12_readsWide_20 ?_
    obtain ⟨a4, e4, H⟩ := wp_b H
    refine rc_V0v dX12_readsWide_21 ml_X12_137 mc_X12_goOn (c_X12_goOn e4) rfl rfl rfl (ok_M rfl) rfl rfl rfl ?_
    exact am_V.wk (am_s (am_s (am_n (am_n (am_n am_0))))) ((c_X12_readsWide_L  _ H).1 _ _ rfl)
noncomputable def f_X12_readsFlourish_53  (x1 : Int32) (h : am_H) : Option am_H :=
  (f_X12_isGood h).bind (fun a1 => if a1 = 0 then (some (h)) else (if ib x1 6 then (am_lt (am_ul h (.inl 0) 7 x1.toNatClampNeg (h.2.1 (.inl 0) 0 12)) (fun h1 => (f_X12_goOn h1).bind (fun a2 => (f_X12_number (iI (1)) (iI (99)) a2).bind (fun a3 => if ib (((iI (130)) + ((iI (3)) * x1)) + (iI (0))) 408 then (am_lt (am_u a3.2 (.inl 0) 2 (((((iI (130)) + ((iI (3)) * x1)) + (iI (0)))).toNatClampNeg) a3.1) (fun h2 => (f_X12_number (iI (1)) (iI (99)) h2).bind (fun a4 => if ib (((iI (130)) + ((iI (3)) * x1)) + (iI (1))) 408 then (am_lt (am_u a4.2 (.inl 0) 2 (((((iI (130)) + ((iI (3)) * x1)) + (iI (1)))).toNatClampNeg) a4.1) (fun h3 => (f_X12_number (iI (1)) (iI (9)) h3).bind (fun a5 => if ib (((iI (130)) + ((iI (3)) * x1)) + (iI (2))) 408 then (am_lt (am_u a5.2 (.inl 0) 2 (((((iI (130)) + ((iI (3)) * x1)) + (iI (2)))).toNatClampNeg) a5.1) (fun h4 => (f_X12_isGood h4).bind (fun a6 => if a6 = 0 then (some (h4)) else (if ib (iI (2)) 408 then (if ib (iI (2)) 408 then (am_lt (am_u h4 (.inl 0) 2 (((iI (2))).toNatClampNeg) ((h4.1 (.inl 0) 2 ((iI (2))).toNatClampNeg) + (iI (1)))) (fun h5 => some (h5))) else none) else none)))) else none))) else none))) else none)))) else none))
noncomputable def f_X12_readsFlourish_29  (x1 : Int32) (h : am_H) : Option am_H :=
  (f_X12_mustBeWord h).bind (fun a1 => (f_X12_isGood a1).bind (fun a2 => if a2 = 0 then (f_X12_readsFlourish_53 x1 a1) else ((f_X12_named a1).bind (fun a3 => if a3 = (iI (-1)) then (f_X12_readsFlourish_53 x1 a1) else ((f_X12_wrong (iI (3)) a1).bind (fun a4 => f_X12_readsFlourish_53 x1 a4))))))
noncomputable def f_X12_readsFlourish  (h : am_H) : Option am_H :=
  if ib (iI (2)) 408 then (if (h.1 (.inl 0) 2 ((iI (2))).toNatClampNeg) = (iI (6)) then ((f_X12_wrong (iI (5)) h).bind (fun a1 => (f_X12_isGood a1).bind (fun a2 => if a2 = 0 then (f_X12_readsFlourish_29 (h.1 (.inl 0) 2 ((iI (2))).toNatClampNeg) a1) else ((f_X12_goOn a1).bind (fun a3 => f_X12_readsFlourish_29 (h.1 (.inl 0) 2 ((iI (2))).toNatClampNeg) a3))))) else ((f_X12_isGood h).bind (fun a1 => if a1 = 0 then (f_X12_readsFlourish_29 (h.1 (.inl 0) 2 ((iI (2))).toNatClampNeg) h) else ((f_X12_goOn h).bind (fun a2 => f_X12_readsFlourish_29 (h.1 (.inl 0) 2 ((iI (2))).toNatClampNeg) a2))))) else none
theorem c_X12_readsFlourish_53  {x1 : Int32} {h : am_H} {Q : Option am_v → am_H → Prop} (H : wp (f_X12_readsFlourish_53 x1 h) (fun a => Q none a)) : am_V RX12 cX12_readsFlourish 2 (none) 3 70 0 0 none (am_Tm cX12_readsFlourish (none) Q) 0 0 53 [some (am_r (.inl 0) 0), some (am_i x1)] [] h := by
  unfold f_X12_readsFlourish_53 at H
  refine rl_a0 dX12_readsFlourish_53 ?_
  obtain ⟨a1, e1, H⟩ := wp_b H
  refine rc_V0i dX12_readsFlourish_54 ml_X12_127 mc_X12_isGood (c_X12_isGood e1) rfl rfl rfl (ok_M rfl) rfl rfl rfl ?_
  refine ar_if_ne 61 dX12_readsFlourish_57 (by decide) (fun c1 => ?_) (fun c1 => ?_)
  · replace H := wp_f c1 H
    refine rl_a0 dX12_readsFlourish_61 ?_
    refine rg_R (.inl 0) 7 dX12_readsFlourish_62 fg_X12_35 rfl rfl rfl (ok_M rfl) ?_
    refine rl_i1 dX12_readsFlourish_65 ?_
    refine rl_a0 dX12_readsFlourish_66 ?_
    refine ar_getL dX12_readsFlourish_67 fg_X12_107 rfl rfl (ok_M rfl) ?_
    obtain ⟨b1, H⟩ := wp_g H
    refine ar_last dX12_readsFlourish_70 rfl (ok_M rfl) (ib_in b1) ?_
    replace H := wp_l H
    generalize am_ul h (.inl 0) 7 x1.toNatClampNeg (h.2.1 (.inl 0) 0 12) = h1 at H ⊢
    refine rl_a0 dX12_readsFlourish_71 ?_
    obtain ⟨a2, e2, H⟩ := wp_b H
    refine rc_V0v dX12_readsFlourish_72 ml_X12_137 mc_X12_goOn (c_X12_goOn e2) rfl rfl rfl (ok_M rfl) rfl rfl rfl ?_
    refine rl_a0 dX12_readsFlourish_75 ?_
    refine rg_R (.inl 0) 2 dX12_readsFlourish_76 fg_X12_20 rfl rfl rfl (ok_M rfl) ?_
    refine ar_sipush (iI (130)) dX12_readsFlourish_79 rfl ?_
    refine ar_iconst (iI (3)) dX12_readsFlourish_82 rfl ?_
    refine rl_i1 dX12_readsFlourish_83 ?_
    refine ar_imul dX12_readsFlourish_84 ?_
    refine ar_iadd dX12_readsFlourish_85 ?_
    refine ar_iconst (iI (0)) dX12_readsFlourish_86 rfl ?_
    refine ar_iadd dX12_readsFlourish_87 ?_
    refine rl_a0 dX12_readsFlourish_88 ?_
    refine ar_iconst (iI (1)) dX12_readsFlourish_89 rfl ?_
    refine ar_bipush (iI (99)) dX12_readsFlourish_90 rfl ?_
    obtain ⟨a3, e3, H⟩ := wp_b H
    refine rc_V2i dX12_readsFlourish_92 ml_X12_182 mc_X12_number (c_X12_number e3) rfl rfl rfl (ok_M rfl) rfl rfl rfl ?_
    obtain ⟨b2, H⟩ := wp_g H
    refine ar_iast dX12_readsFlourish_95 rfl (ok_M rfl) (ib_in b2) ?_
    replace H := wp_l H
    generalize am_u a3.2 (.inl 0) 2 (((((iI (130)) + ((iI (3)) * x1)) + (iI (0)))).toNatClampNeg) a3.1 = h2 at H ⊢
    refine rl_a0 dX12_readsFlourish_96 ?_
    refine rg_R (.inl 0) 2 dX12_readsFlourish_97 fg_X12_20 rfl rfl rfl (ok_M rfl) ?_
    refine ar_sipush (iI (130)) dX12_readsFlourish_100 rfl ?_
    refine ar_iconst (iI (3)) dX12_readsFlourish_103 rfl ?_
    refine rl_i1 dX12_readsFlourish_104 ?_
    refine ar_imul dX12_readsFlourish_105 ?_
    refine ar_iadd dX12_readsFlourish_106 ?_
    refine ar_iconst (iI (1)) dX12_readsFlourish_107 rfl ?_
    refine ar_iadd dX12_readsFlourish_108 ?_
    refine rl_a0 dX12_readsFlourish_109 ?_
    refine ar_iconst (iI (1)) dX12_readsFlourish_110 rfl ?_
    refine ar_bipush (iI (99)) dX12_readsFlourish_111 rfl ?_
    obtain ⟨a4, e4, H⟩ := wp_b H
    refine rc_V2i dX12_readsFlourish_113 ml_X12_182 mc_X12_number (c_X12_number e4) rfl rfl rfl (ok_M rfl) rfl rfl rfl ?_
    obtain ⟨b3, H⟩ := wp_g H
    refine ar_iast dX12_readsFlourish_116 rfl (ok_M rfl) (ib_in b3) ?_
    replace H := wp_l H
    generalize am_u a4.2 (.inl 0) 2 (((((iI (130)) + ((iI (3)) * x1)) + (iI (1)))).toNatClampNeg) a4.1 = h3 at H ⊢
    refine rl_a0 dX12_readsFlourish_117 ?_
    refine rg_R (.inl 0) 2 dX12_readsFlourish_118 fg_X12_20 rfl rfl rfl (ok_M rfl) ?_
    refine ar_sipush (iI (130)) dX12_readsFlourish_121 rfl ?_
    refine ar_iconst (iI (3)) dX12_readsFlourish_124 rfl ?_
    refine rl_i1 dX12_readsFlourish_125 ?_
    refine ar_imul dX12_readsFlourish_126 ?_
    refine ar_iadd dX12_readsFlourish_127 ?_
    refine ar_iconst (iI (2)) dX12_readsFlourish_128 rfl ?_
    refine ar_iadd dX12_readsFlourish_129 ?_
    refine rl_a0 dX12_readsFlourish_130 ?_
    refine ar_iconst (iI (1)) dX12_readsFlourish_131 rfl ?_
    refine ar_bipush (iI (9)) dX12_readsFlourish_132 rfl ?_
    obtain ⟨a5, e5, H⟩ := wp_b H
    refine rc_V2i dX12_readsFlourish_134 ml_X12_182 mc_X12_number (c_X12_number e5) rfl rfl rfl (ok_M rfl) rfl rfl rfl ?_
    obtain ⟨b4, H⟩ := wp_g H
    refine ar_iast dX12_readsFlourish_137 rfl (ok_M rfl) (ib_in b4) ?_
    replace H := wp_l H
    generalize am_u a5.2 (.inl 0) 2 (((((iI (130)) + ((iI (3)) * x1)) + (iI (2)))).toNatClampNeg) a5.1 = h4 at H ⊢
    refine rl_a0 dX12_readsFlourish_138 ?_
    obtain ⟨a6, e6, H⟩ := wp_b H
    refine rc_V0i dX12_readsFlourish_139 ml_X12_127 mc_X12_isGood (c_X12_isGood e6) rfl rfl rfl (ok_M rfl) rfl rfl rfl ?_
    refine ar_if_eq 155 dX12_readsFlourish_142 (by decide) (fun c2 => ?_) (fun c2 => ?_)
    · replace H := wp_t c2 H
      replace H := wp_s H
      exact ar_vret dX12_readsFlourish_155 rfl H
    · replace H := wp_f c2 H
      refine rl_a0 dX12_readsFlourish_145 ?_
      refine rg_R (.inl 0) 2 dX12_readsFlourish_146 fg_X12_20 rfl rfl rfl (ok_M rfl) ?_
      refine ar_iconst (iI (2)) dX12_readsFlourish_149 rfl ?_
      refine ar_dup2 dX12_readsFlourish_150 trivial trivial ?_
      obtain ⟨b5, H⟩ := wp_g H
      refine ar_iald dX12_readsFlourish_151 rfl (ok_M rfl) (ib_in b5) ?_
      refine ar_iconst (iI (1)) dX12_readsFlourish_152 rfl ?_
      refine ar_iadd dX12_readsFlourish_153 ?_
      obtain ⟨b6, H⟩ := wp_g H
      refine ar_iast dX12_readsFlourish_154 rfl (ok_M rfl) (ib_in b6) ?_
      replace H := wp_l H
      generalize am_u h4 (.inl 0) 2 (((iI (2))).toNatClampNeg) ((h4.1 (.inl 0) 2 ((iI (2))).toNatClampNeg) + (iI (1))) = h5 at H ⊢
      replace H := wp_s H
      exact ar_vret dX12_readsFlourish_155 rfl H
  · replace H := wp_t c1 H
    replace H := wp_s H
    exact ar_vret dX12_readsFlourish_60 rfl H
theorem c_X12_readsFlourish_29  {x1 : Int32} {h : am_H} {Q : Option am_v → am_H → Prop} (H : wp (f_X12_readsFlourish_29 x1 h) (fun a => Q none a)) : am_V RX12 cX12_readsFlourish 2 (none) 3 70 0 0 none (am_Tm cX12_readsFlourish (none) Q) 0 0 29 [some (am_r (.inl 0) 0), some (am_i x1)] [] h := by
  unfold f_X12_readsFlourish_29 at H
  refine rl_a0 dX12_readsFlourish_29 ?_
  obtain ⟨a1, e1, H⟩ := wp_b H
  refine rc_V0v dX12_readsFlourish_30 ml_X12_200 mc_X12_mustBeWord (c_X12_mustBeWord e1) rfl rfl rfl (ok_M rfl) rfl rfl rfl ?_
  refine rl_a0 dX12_readsFlourish_33 ?_
  obtain ⟨a2, e2, H⟩ := wp_b H
  refine rc_V0i dX12_readsFlourish_34 ml_X12_127 mc_X12_isGood (c_X12_isGood e2) rfl rfl rfl (ok_M rfl) rfl rfl rfl ?_
  refine ar_if_eq 53 dX12_readsFlourish_37 (by decide) (fun c1 => ?_) (fun c1 => ?_)
  · replace H := wp_t c1 H
    exact am_V.wk (am_s (am_s am_0)) (c_X12_readsFlourish_53  H)
  · replace H := wp_f c1 H
    refine rl_a0 dX12_readsFlourish_40 ?_
    obtain ⟨a3, e3, H⟩ := wp_b H
    refine rc_V0i dX12_readsFlourish_41 ml_X12_207 mc_X12_named (c_X12_named e3) rfl rfl rfl (ok_M rfl) rfl rfl rfl ?_
    refine ar_iconst (iI (-1)) dX12_readsFlourish_44 rfl ?_
    refine ar_ic_eq 53 dX12_readsFlourish_45 (by decide) (fun c2 => ?_) (fun c2 => ?_)
    · replace H := wp_t c2 H
      exact am_V.wk (am_s (am_s am_0)) (c_X12_readsFlourish_53  H)
    · replace H := wp_f c2 H
      refine rl_a0 dX12_readsFlourish_48 ?_
      refine ar_iconst (iI (3)) dX12_readsFlourish_49 rfl ?_
      obtain ⟨a4, e4, H⟩ := wp_b H
      refine rc_V1v dX12_readsFlourish_50 ml_X12_134 mc_X12_wrong (c_X12_wrong e4) rfl rfl rfl (ok_M rfl) rfl rfl rfl ?_
      exact am_V.wk (am_s (am_s am_0)) (c_X12_readsFlourish_53  H)
theorem c_X12_readsFlourish  {h : am_H} {a : am_H} (e : f_X12_readsFlourish h = some a) : am_Mv yX12_readsFlourish cX12_readsFlourish 2 (none) 3 70 [am_r (.inl 0) 0] h a := by
  refine am_M.ofv (A := [some (am_r (.inl 0) 0), none]) (by decide +kernel) rfl (ble rfl) (fun Q hQ => ?_)
  have H : wp (f_X12_readsFlourish h) (fun a => Q none a) := ⟨a, e, hQ⟩
  unfold f_X12_readsFlourish at H
  refine rl_a0 dX12_readsFlourish_0 ?_
  refine rg_R (.inl 0) 2 dX12_readsFlourish_1 fg_X12_20 rfl rfl rfl (ok_M rfl) ?_
  refine ar_iconst (iI (2)) dX12_readsFlourish_4 rfl ?_
  obtain ⟨b1, H⟩ := wp_g H
  refine ar_iald dX12_readsFlourish_5 rfl (ok_M rfl) (ib_in b1) ?_
  refine rs_i1 dX12_readsFlourish_6 rfl trivial ?_
  refine rl_i1 dX12_readsFlourish_7 ?_
  refine ar_bipush (iI (6)) dX12_readsFlourish_8 rfl ?_
  refine ar_ic_ne 18 dX12_readsFlourish_10 (by decide) (fun c1 => ?_) (fun c1 => ?_)
  · replace H := wp_f c1 H
    refine rl_a0 dX12_readsFlourish_18 ?_
    obtain ⟨a1, e1, H⟩ := wp_b H
    refine rc_V0i dX12_readsFlourish_19 ml_X12_127 mc_X12_isGood (c_X12_isGood e1) rfl rfl rfl (ok_M rfl) rfl rfl rfl ?_
    refine ar_if_eq 29 dX12_readsFlourish_22 (by decide) (fun c2 => ?_) (fun c2 => ?_)
    · replace H := wp_t c2 H
      exact am_V.wk (am_s (am_s am_0)) (c_X12_readsFlourish_29  H)
    · replace H := wp_f c2 H
      refine rl_a0 dX12_readsFlourish_25 ?_
      obtain ⟨a2, e2, H⟩ := wp_b H
      refine rc_V0v dX12_readsFlourish_26 ml_X12_137 mc_X12_goOn (c_X12_goOn e2) rfl rfl rfl (ok_M rfl) rfl rfl rfl ?_
      exact am_V.wk (am_s (am_s am_0)) (c_X12_readsFlourish_29  H)
  · replace H := wp_t c1 H
    refine rl_a0 dX12_readsFlourish_13 ?_
    refine ar_iconst (iI (5)) dX12_readsFlourish_14 rfl ?_
    obtain ⟨a1, e1, H⟩ := wp_b H
    refine rc_V1v dX12_readsFlourish_15 ml_X12_134 mc_X12_wrong (c_X12_wrong e1) rfl rfl rfl (ok_M rfl) rfl rfl rfl ?_
    refine rl_a0 dX12_readsFlourish_18 ?_
    obtain ⟨a2, e2, H⟩ := wp_b H
    refine rc_V0i dX12_readsFlourish_19 ml_X12_127 mc_X12_isGood (c_X12_isGood e2) rfl rfl rfl (ok_M rfl) rfl rfl rfl ?_
    refine ar_if_eq 29 dX12_readsFlourish_22 (by decide) (fun c2 => ?_) (fun c2 => ?_)
    · replace H := wp_t c2 H
      exact am_V.wk (am_s (am_s am_0)) (c_X12_readsFlourish_29  H)
    · replace H := wp_f c2 H
      refine rl_a0 dX12_readsFlourish_25 ?_
      obtain ⟨a3, e3, H⟩ := wp_b H
      refine rc_V0v dX12_readsFlourish_26 ml_X12_137 mc_X12_goOn (c_X12_goOn e3) rfl rfl rfl (ok_M rfl) rfl rfl rfl ?_
      exact am_V.wk (am_s (am_s am_0)) (c_X12_readsFlourish_29  H)
noncomputable def f_X12_statement  (h : am_H) : Option am_H :=
  (f_X12_isWord (1603 : Int64) h).bind (fun a1 => if a1 = 0 then ((f_X12_isWord (460197 : Int64) h).bind (fun a2 => if a2 = 0 then ((f_X12_isWord (763013 : Int64) h).bind (fun a3 => if a3 = 0 then ((f_X12_isWord (219569268328 : Int64) h).bind (fun a4 => if a4 = 0 then ((f_X12_isWord (627876 : Int64) h).bind (fun a5 => if a5 = 0 then ((f_X12_isWord (20186704 : Int64) h).bind (fun a6 => if a6 = 0 then ((f_X12_isWord (437853486 : Int64) h).bind (fun a7 => if a7 = 0 then ((f_X12_wrong (iI (1)) h).bind (fun a8 => (f_X12_mustSign (iI (59)) a8).bind (fun a9 => some (a9)))) else ((f_X12_readsOnce (iI (4)) (iI (2)) (iI (0)) (iI (99)) h).bind (fun a8 => (f_X12_mustSign (iI (59)) a8).bind (fun a9 => some (a9)))))) else ((f_X12_readsOnce (iI (3)) (iI (1)) (iI (1)) (iI (99)) h).bind (fun a7 => (f_X12_mustSign (iI (59)) a7).bind (fun a8 => some (a8)))))) else ((f_X12_readsOnce (iI (5)) (iI (0)) (iI (0)) (iI (999)) h).bind (fun a6 => (f_X12_mustSign (iI (59)) a6).bind (fun a7 => some (a7)))))) else ((f_X12_readsFlourish h).bind (fun a5 => (f_X12_mustSign (iI (59)) a5).bind (fun a6 => some (a6)))))) else ((f_X12_readsWide h).bind (fun a4 => (f_X12_mustSign (iI (59)) a4).bind (fun a5 => some (a5)))))) else ((f_X12_readsName h).bind (fun a3 => (f_X12_mustSign (iI (59)) a3).bind (fun a4 => some (a4)))))) else ((f_X12_readsArc h).bind (fun a2 => (f_X12_mustSign (iI (59)) a2).bind (fun a3 => some (a3)))))
theorem c_X12_statement  {h : am_H} {a : am_H} (e : f_X12_statement h = some a) : am_Mv yX12_statement cX12_statement 1 (none) 4 96 [am_r (.inl 0) 0] h a := by
  refine am_M.ofv (A := [some (am_r (.inl 0) 0)]) (by decide +kernel) rfl (ble rfl) (fun Q hQ => ?_)
  have H : wp (f_X12_statement h) (fun a => Q none a) := ⟨a, e, hQ⟩
  unfold f_X12_statement at H
  refine rl_a0 dX12_statement_0 ?_
  refine ar_ldc2 (1603) dX12_statement_1 kc_X12_211 ?_
  obtain ⟨a1, e1, H⟩ := wp_b H
  refine rc_V1i dX12_statement_4 ml_X12_140 mc_X12_isWord (c_X12_isWord e1) rfl rfl rfl (ok_M rfl) rfl rfl rfl ?_
  refine ar_if_eq 17 dX12_statement_7 (by decide) (fun c1 => ?_) (fun c1 => ?_)
  · replace H := wp_t c1 H
    refine rl_a0 dX12_statement_17 ?_
    refine ar_ldc2 (460197) dX12_statement_18 kc_X12_216 ?_
    obtain ⟨a2, e2, H⟩ := wp_b H
    refine rc_V1i dX12_statement_21 ml_X12_140 mc_X12_isWord (c_X12_isWord e2) rfl rfl rfl (ok_M rfl) rfl rfl rfl ?_
    refine ar_if_eq 34 dX12_statement_24 (by decide) (fun c2 => ?_) (fun c2 => ?_)
    · replace H := wp_t c2 H
      refine rl_a0 dX12_statement_34 ?_
      refine ar_ldc2 (763013) dX12_statement_35 kc_X12_221 ?_
      obtain ⟨a3, e3, H⟩ := wp_b H
      refine rc_V1i dX12_statement_38 ml_X12_140 mc_X12_isWord (c_X12_isWord e3) rfl rfl rfl (ok_M rfl) rfl rfl rfl ?_
      refine ar_if_eq 51 dX12_statement_41 (by decide) (fun c3 => ?_) (fun c3 => ?_)
      · replace H := wp_t c3 H
        refine rl_a0 dX12_statement_51 ?_
        refine ar_ldc2 (219569268328) dX12_statement_52 kc_X12_226 ?_
        obtain ⟨a4, e4, H⟩ := wp_b H
        refine rc_V1i dX12_statement_55 ml_X12_140 mc_X12_isWord (c_X12_isWord e4) rfl rfl rfl (ok_M rfl) rfl rfl rfl ?_
        refine ar_if_eq 68 dX12_statement_58 (by decide) (fun c4 => ?_) (fun c4 => ?_)
        · replace H := wp_t c4 H
          refine rl_a0 dX12_statement_68 ?_
          refine ar_ldc2 (627876) dX12_statement_69 kc_X12_231 ?_
          obtain ⟨a5, e5, H⟩ := wp_b H
          refine rc_V1i dX12_statement_72 ml_X12_140 mc_X12_isWord (c_X12_isWord e5) rfl rfl rfl (ok_M rfl) rfl rfl rfl ?_
          refine ar_if_eq 91 dX12_statement_75 (by decide) (fun c5 => ?_) (fun c5 => ?_)
          · replace H := wp_t c5 H
            refine rl_a0 dX12_statement_91 ?_
            refine ar_ldc2 (20186704) dX12_statement_92 kc_X12_237 ?_
            obtain ⟨a6, e6, H⟩ := wp_b H
            refine rc_V1i dX12_statement_95 ml_X12_140 mc_X12_isWord (c_X12_isWord e6) rfl rfl rfl (ok_M rfl) rfl rfl rfl ?_
            refine ar_if_eq 113 dX12_statement_98 (by decide) (fun c6 => ?_) (fun c6 => ?_)
            · replace H := wp_t c6 H
              refine rl_a0 dX12_statement_113 ?_
              refine ar_ldc2 (437853486) dX12_statement_114 kc_X12_239 ?_
              obtain ⟨a7, e7, H⟩ := wp_b H
              refine rc_V1i dX12_statement_117 ml_X12_140 mc_X12_isWord (c_X12_isWord e7) rfl rfl rfl (ok_M rfl) rfl rfl rfl ?_
              refine ar_if_eq 135 dX12_statement_120 (by decide) (fun c7 => ?_) (fun c7 => ?_)
              · replace H := wp_t c7 H
                refine rl_a0 dX12_statement_135 ?_
                refine ar_iconst (iI (1)) dX12_statement_136 rfl ?_
                obtain ⟨a8, e8, H⟩ := wp_b H
                refine rc_V1v dX12_statement_137 ml_X12_134 mc_X12_wrong (c_X12_wrong e8) rfl rfl rfl (ok_M rfl) rfl rfl rfl ?_
                refine rl_a0 dX12_statement_140 ?_
                refine ar_bipush (iI (59)) dX12_statement_141 rfl ?_
                obtain ⟨a9, e9, H⟩ := wp_b H
                refine rc_V1v dX12_statement_143 ml_X12_241 mc_X12_mustSign (c_X12_mustSign e9) rfl rfl rfl (ok_M rfl) rfl rfl rfl ?_
                replace H := wp_s H
                exact ar_vret dX12_statement_146 rfl H
              · replace H := wp_f c7 H
                refine rl_a0 dX12_statement_123 ?_
                refine ar_iconst (iI (4)) dX12_statement_124 rfl ?_
                refine ar_iconst (iI (2)) dX12_statement_125 rfl ?_
                refine ar_iconst (iI (0)) dX12_statement_126 rfl ?_
                refine ar_bipush (iI (99)) dX12_statement_127 rfl ?_
                obtain ⟨a8, e8, H⟩ := wp_b H
                refine rc_V4v dX12_statement_129 ml_X12_233 mc_X12_readsOnce (c_X12_readsOnce e8) rfl rfl rfl (ok_M rfl) rfl rfl rfl ?_
                refine ar_goto 140 dX12_statement_132 (by decide) ?_
                refine rl_a0 dX12_statement_140 ?_
                refine ar_bipush (iI (59)) dX12_statement_141 rfl ?_
                obtain ⟨a9, e9, H⟩ := wp_b H
                refine rc_V1v dX12_statement_143 ml_X12_241 mc_X12_mustSign (c_X12_mustSign e9) rfl rfl rfl (ok_M rfl) rfl rfl rfl ?_
                replace H := wp_s H
                exact ar_vret dX12_statement_146 rfl H
            · replace H := wp_f c6 H
              refine rl_a0 dX12_statement_101 ?_
              refine ar_iconst (iI (3)) dX12_statement_102 rfl ?_
              refine ar_iconst (iI (1)) dX12_statement_103 rfl ?_
              refine ar_iconst (iI (1)) dX12_statement_104 rfl ?_
              refine ar_bipush (iI (99)) dX12_statement_105 rfl ?_
              obtain ⟨a7, e7, H⟩ := wp_b H
              refine rc_V4v dX12_statement_107 ml_X12_233 mc_X12_readsOnce (c_X12_readsOnce e7) rfl rfl rfl (ok_M rfl) rfl rfl rfl ?_
              refine ar_goto 140 dX12_statement_110 (by decide) ?_
              refine rl_a0 dX12_statement_140 ?_
              refine ar_bipush (iI (59)) dX12_statement_141 rfl ?_
              obtain ⟨a8, e8, H⟩ := wp_b H
              refine rc_V1v dX12_statement_143 ml_X12_241 mc_X12_mustSign (c_X12_mustSign e8) rfl rfl rfl (ok_M rfl) rfl rfl rfl ?_
              replace H := wp_s H
              exact ar_vret dX12_statement_146 rfl H
          · replace H := wp_f c5 H
            refine rl_a0 dX12_statement_78 ?_
            refine ar_iconst (iI (5)) dX12_statement_79 rfl ?_
            refine ar_iconst (iI (0)) dX12_statement_80 rfl ?_
            refine ar_iconst (iI (0)) dX12_statement_81 rfl ?_
            refine ar_sipush (iI (999)) dX12_statement_82 rfl ?_
            obtain ⟨a6, e6, H⟩ := wp_b H
            refine rc_V4v dX12_statement_85 ml_X12_233 mc_X12_readsOnce (c_X12_readsOnce e6) rfl rfl rfl (ok_M rfl) rfl rfl rfl ?_
            refine ar_goto 140 dX12_statement_88 (by decide) ?_
            refine rl_a0 dX12_statement_140 ?_
            refine ar_bipush (iI (59)) dX12_statement_141 rfl ?_
            obtain ⟨a7, e7, H⟩ := wp_b H
            refine rc_V1v dX12_statement_143 ml_X12_241 mc_X12_mustSign (c_X12_mustSign e7) rfl rfl rfl (ok_M rfl) rfl rfl rfl ?_
            replace H := wp_s H
            exact ar_vret dX12_statement_146 rfl H
        · replace H := wp_f c4 H
          refine rl_a0 dX12_statement_61 ?_
          obtain ⟨a5, e5, H⟩ := wp_b H
          refine rc_V0v dX12_statement_62 ml_X12_228 mc_X12_readsFlourish (c_X12_readsFlourish e5) rfl rfl rfl (ok_M rfl) rfl rfl rfl ?_
          refine ar_goto 140 dX12_statement_65 (by decide) ?_
          refine rl_a0 dX12_statement_140 ?_
          refine ar_bipush (iI (59)) dX12_statement_141 rfl ?_
          obtain ⟨a6, e6, H⟩ := wp_b H
          refine rc_V1v dX12_statement_143 ml_X12_241 mc_X12_mustSign (c_X12_mustSign e6) rfl rfl rfl (ok_M rfl) rfl rfl rfl ?_
          replace H := wp_s H
          exact ar_vret dX12_statement_146 rfl H
      · replace H := wp_f c3 H
        refine rl_a0 dX12_statement_44 ?_
        obtain ⟨a4, e4, H⟩ := wp_b H
        refine rc_V0v dX12_statement_45 ml_X12_223 mc_X12_readsWide (c_X12_readsWide e4) rfl rfl rfl (ok_M rfl) rfl rfl rfl ?_
        refine ar_goto 140 dX12_statement_48 (by decide) ?_
        refine rl_a0 dX12_statement_140 ?_
        refine ar_bipush (iI (59)) dX12_statement_141 rfl ?_
        obtain ⟨a5, e5, H⟩ := wp_b H
        refine rc_V1v dX12_statement_143 ml_X12_241 mc_X12_mustSign (c_X12_mustSign e5) rfl rfl rfl (ok_M rfl) rfl rfl rfl ?_
        replace H := wp_s H
        exact ar_vret dX12_statement_146 rfl H
    · replace H := wp_f c2 H
      refine rl_a0 dX12_statement_27 ?_
      obtain ⟨a3, e3, H⟩ := wp_b H
      refine rc_V0v dX12_statement_28 ml_X12_218 mc_X12_readsName (c_X12_readsName e3) rfl rfl rfl (ok_M rfl) rfl rfl rfl ?_
      refine ar_goto 140 dX12_statement_31 (by decide) ?_
      refine rl_a0 dX12_statement_140 ?_
      refine ar_bipush (iI (59)) dX12_statement_141 rfl ?_
      obtain ⟨a4, e4, H⟩ := wp_b H
      refine rc_V1v dX12_statement_143 ml_X12_241 mc_X12_mustSign (c_X12_mustSign e4) rfl rfl rfl (ok_M rfl) rfl rfl rfl ?_
      replace H := wp_s H
      exact ar_vret dX12_statement_146 rfl H
  · replace H := wp_f c1 H
    refine rl_a0 dX12_statement_10 ?_
    obtain ⟨a2, e2, H⟩ := wp_b H
    refine rc_V0v dX12_statement_11 ml_X12_213 mc_X12_readsArc (c_X12_readsArc e2) rfl rfl rfl (ok_M rfl) rfl rfl rfl ?_
    refine ar_goto 140 dX12_statement_14 (by decide) ?_
    refine rl_a0 dX12_statement_140 ?_
    refine ar_bipush (iI (59)) dX12_statement_141 rfl ?_
    obtain ⟨a3, e3, H⟩ := wp_b H
    refine rc_V1v dX12_statement_143 ml_X12_241 mc_X12_mustSign (c_X12_mustSign e3) rfl rfl rfl (ok_M rfl) rfl rfl rfl ?_
    replace H := wp_s H
    exact ar_vret dX12_statement_146 rfl H
noncomputable def s_X12_readText  : am_S am_H → Option (am_S am_H ⊕ (Int32 × am_H)) := fun s => match s with
  | (28, [], [], [], h) => (f_X12_isGood h).bind (fun a1 => if a1 = 0 then (some (.inl (49, [], [], [], h))) else (if (h.1 (.inl 0) 0 6) = 0 then (some (.inl (49, [], [], [], h))) else ((f_X12_statement h).bind (fun a2 => some (.inl (28, [], [], [], a2))))))
  | (49, [], [], [], h) => (f_X12_endsText h).bind (fun a1 => if a1.1 = 0 then ((f_X12_copiesRow 4 408 (iI (0)) 2 408 (iI (0)) a1.2).bind (fun a2 => (f_X12_copiesNames 9 6 7 6 a2).bind (fun a3 => some (.inr (((iI (0)), a3)))))) else (am_lt (am_u a1.2 (.inl 0) 0 21 (iI (0))) (fun h1 => if ib (iI (1)) 408 then (some (.inr (((h1.1 (.inl 0) 2 ((iI (1))).toNatClampNeg), h1)))) else none)))
  | _ => none
noncomputable def f_X12_readText_28   (h : am_H) : Option (Int32 × am_H) := lp (s_X12_readText) (28, [], [], [], h)
noncomputable def f_X12_readText_49   (h : am_H) : Option (Int32 × am_H) := lp (s_X12_readText) (49, [], [], [], h)
theorem e_X12_readText_28   (h : am_H) : f_X12_readText_28 h = ((f_X12_isGood h).bind (fun a1 => if a1 = 0 then (f_X12_readText_49 h) else (if (h.1 (.inl 0) 0 6) = 0 then (f_X12_readText_49 h) else ((f_X12_statement h).bind (fun a2 => f_X12_readText_28 a2))))) := by
  show lp _ _ = _
  rw [lp_eq, s_X12_readText]
  simp only [lpk_i, lpk_b, lpk_l, lpk_n, lpk_j, lpk_r] <;> rfl
theorem e_X12_readText_49   (h : am_H) : f_X12_readText_49 h = ((f_X12_endsText h).bind (fun a1 => if a1.1 = 0 then ((f_X12_copiesRow 4 408 (iI (0)) 2 408 (iI (0)) a1.2).bind (fun a2 => (f_X12_copiesNames 9 6 7 6 a2).bind (fun a3 => some (((iI (0)), a3))))) else (am_lt (am_u a1.2 (.inl 0) 0 21 (iI (0))) (fun h1 => if ib (iI (1)) 408 then (some (((h1.1 (.inl 0) 2 ((iI (1))).toNatClampNeg), h1))) else none)))) := by
  show lp _ _ = _
  rw [lp_eq, s_X12_readText]
  simp only [lpk_i, lpk_b, lpk_l, lpk_n, lpk_j, lpk_r] <;> rfl
noncomputable def f_X12_readText  (h : am_H) : Option (Int32 × am_H) :=
  (f_X12_beginsText h).bind (fun a1 => (f_X12_laysAside a1).bind (fun a2 => (f_X12_copiesNames 7 6 9 6 a2).bind (fun a3 => (f_X12_clears a3).bind (fun a4 => am_lt (am_u a4 (.inl 0) 0 23 (iI (0))) (fun h1 => f_X12_readText_28 h1)))))
theorem c_X12_readText_L  {Q : Option am_v → am_H → Prop} : ∀ s, wp (lp (s_X12_readText) s) (fun a => Q (some (am_i a.1)) a.2) → ((∀ h, s = (28, [], [], [], h) → am_V RX12 cX12_readText 1 (some .int) 5 116 0 0 none (am_Tm cX12_readText (some .int) Q) 0 0 28 [some (am_r (.inl 0) 0)] [] h) ∧ (∀ h, s = (49, [], [], [], h) → am_V RX12 cX12_readText 1 (some .int) 5 116 0 0 none (am_Tm cX12_readText (some .int) Q) 0 0 49 [some (am_r (.inl 0) 0)] [] h)) := by
  refine lp_ind _ _ (fun s H => ⟨fun h e => ?_, fun h e => ?_⟩)
  · subst e
    rw [s_X12_readText] at H
    refine rl_a0 dX12_readText_28 ?_
    obtain ⟨a1, e1, H⟩ := wp_b H
    refine rc_V0i dX12_readText_29 ml_X12_127 mc_X12_isGood (c_X12_isGood e1) rfl rfl rfl (ok_M rfl) rfl rfl rfl ?_
    refine ar_if_eq 49 dX12_readText_32 (by decide) (fun c1 => ?_) (fun c1 => ?_)
    · replace H := wp_t c1 H
      exact am_V.wk (am_s am_0) ((lp_in H).2 _ rfl)
    · replace H := wp_f c1 H
      refine rl_a0 dX12_readText_35 ?_
      refine ar_getI dX12_readText_36 fg_X12_114 rfl rfl (ok_M rfl) ?_
      refine ar_if_eq 49 dX12_readText_39 (by decide) (fun c2 => ?_) (fun c2 => ?_)
      · replace H := wp_t c2 H
        exact am_V.wk (am_s am_0) ((lp_in H).2 _ rfl)
      · replace H := wp_f c2 H
        refine rl_a0 dX12_readText_42 ?_
        obtain ⟨a2, e2, H⟩ := wp_b H
        refine rc_V0v dX12_readText_43 ml_X12_250 mc_X12_statement (c_X12_statement e2) rfl rfl rfl (ok_M rfl) rfl rfl rfl ?_
        refine ar_goto 28 dX12_readText_46 (by decide) ?_
        exact am_V.wk (am_s am_0) ((lp_in H).1 _ rfl)
  · subst e
    rw [s_X12_readText] at H
    refine rl_a0 dX12_readText_49 ?_
    obtain ⟨a1, e1, H⟩ := wp_b H
    refine rc_V0i dX12_readText_50 ml_X12_253 mc_X12_endsText (c_X12_endsText e1) rfl rfl rfl (ok_M rfl) rfl rfl rfl ?_
    refine ar_if_ne 82 dX12_readText_53 (by decide) (fun c1 => ?_) (fun c1 => ?_)
    · replace H := wp_f c1 H
      refine rl_a0 dX12_readText_82 ?_
      refine ar_iconst (iI (0)) dX12_readText_83 rfl ?_
      refine ar_putI dX12_readText_84 fg_X12_155 rfl rfl (ok_M rfl) rfl rfl ?_
      replace H := wp_l H
      generalize am_u a1.2 (.inl 0) 0 21 (iI (0)) = h1 at H ⊢
      refine rl_a0 dX12_readText_87 ?_
      refine rg_R (.inl 0) 2 dX12_readText_88 fg_X12_20 rfl rfl rfl (ok_M rfl) ?_
      refine ar_iconst (iI (1)) dX12_readText_91 rfl ?_
      obtain ⟨b1, H⟩ := wp_g H
      refine ar_iald dX12_readText_92 rfl (ok_M rfl) (ib_in b1) ?_
      replace H := lp_re H
      exact ar_iret dX12_readText_93 rfl rfl H
    · replace H := wp_t c1 H
      refine rl_a0 dX12_readText_56 ?_
      refine rg_R (.inl 0) 4 dX12_readText_57 fg_X12_26 rfl rfl rfl (ok_M rfl) ?_
      refine ar_iconst (iI (0)) dX12_readText_60 rfl ?_
      refine rl_a0 dX12_readText_61 ?_
      refine rg_R (.inl 0) 2 dX12_readText_62 fg_X12_20 rfl rfl rfl (ok_M rfl) ?_
      refine ar_iconst (iI (0)) dX12_readText_65 rfl ?_
      obtain ⟨a2, e2, H⟩ := wp_b H
      refine rc_S4v dX12_readText_66 ml_X12_151 mc_X12_copiesRow (c_X12_copiesRow rfl (ok_M rfl) rfl (ok_M rfl) e2) rfl rfl rfl ?_
      refine rl_a0 dX12_readText_69 ?_
      refine rg_R (.inl 0) 9 dX12_readText_70 fg_X12_42 rfl rfl rfl (ok_M rfl) ?_
      refine rl_a0 dX12_readText_73 ?_
      refine rg_R (.inl 0) 7 dX12_readText_74 fg_X12_35 rfl rfl rfl (ok_M rfl) ?_
      obtain ⟨a3, e3, H⟩ := wp_b H
      refine rc_S2v dX12_readText_77 ml_X12_161 mc_X12_copiesNames (c_X12_copiesNames rfl (ok_M rfl) rfl (ok_M rfl) e3) rfl rfl rfl ?_
      refine ar_iconst (iI (0)) dX12_readText_80 rfl ?_
      replace H := lp_re H
      exact ar_iret dX12_readText_81 rfl rfl H
theorem c_X12_readText  {h : am_H} {a : Int32 × am_H} (e : f_X12_readText h = some a) : am_Mi yX12_readText cX12_readText 1 (some .int) 5 116 [am_r (.inl 0) 0] h a.1 a.2 := by
  refine am_M.ofi (A := [some (am_r (.inl 0) 0)]) (by decide +kernel) rfl (ble rfl) (fun Q hQ => ?_)
  have H : wp (f_X12_readText h) (fun a => Q (some (am_i a.1)) a.2) := ⟨a, e, hQ⟩
  unfold f_X12_readText at H
  refine rl_a0 dX12_readText_0 ?_
  obtain ⟨a1, e1, H⟩ := wp_b H
  refine rc_V0v dX12_readText_1 ml_X12_244 mc_X12_beginsText (c_X12_beginsText e1) rfl rfl rfl (ok_M rfl) rfl rfl rfl ?_
  refine rl_a0 dX12_readText_4 ?_
  obtain ⟨a2, e2, H⟩ := wp_b H
  refine rc_V0v dX12_readText_5 ml_X12_247 mc_X12_laysAside (c_X12_laysAside e2) rfl rfl rfl (ok_M rfl) rfl rfl rfl ?_
  refine rl_a0 dX12_readText_8 ?_
  refine rg_R (.inl 0) 7 dX12_readText_9 fg_X12_35 rfl rfl rfl (ok_M rfl) ?_
  refine rl_a0 dX12_readText_12 ?_
  refine rg_R (.inl 0) 9 dX12_readText_13 fg_X12_42 rfl rfl rfl (ok_M rfl) ?_
  obtain ⟨a3, e3, H⟩ := wp_b H
  refine rc_S2v dX12_readText_16 ml_X12_161 mc_X12_copiesNames (c_X12_copiesNames rfl (ok_M rfl) rfl (ok_M rfl) e3) rfl rfl rfl ?_
  refine rl_a0 dX12_readText_19 ?_
  obtain ⟨a4, e4, H⟩ := wp_b H
  refine rc_V0v dX12_readText_20 ml_X12_69 mc_X12_clears (c_X12_clears e4) rfl rfl rfl (ok_M rfl) rfl rfl rfl ?_
  refine rl_a0 dX12_readText_23 ?_
  refine ar_iconst (iI (0)) dX12_readText_24 rfl ?_
  refine ar_putI dX12_readText_25 fg_X12_175 rfl rfl (ok_M rfl) rfl rfl ?_
  replace H := wp_l H
  generalize am_u a4 (.inl 0) 0 23 (iI (0)) = h1 at H ⊢
  exact am_V.wk (am_s am_0) ((c_X12_readText_L  _ H).1 _ rfl)
noncomputable def f_X12_greater (x0 : Int32) (x1 : Int32) : Option Int32 :=
  if x0 ≤ x1 then (some (x1)) else (some (x0))
theorem c_X12_greater {x0 : Int32} {x1 : Int32} {h : am_H} {a : Int32} (e : f_X12_greater x0 x1 = some a) : am_Mi yX12_greater cX12_greater 2 (some .int) 0 0 [am_i x0, am_i x1] h a h := by
  refine am_M.ofi (A := [some (am_i x0), some (am_i x1)]) (by decide +kernel) rfl (ble rfl) (fun Q hQ => ?_)
  have H : wp (f_X12_greater x0 x1) (fun a => Q (some (am_i a)) h) := ⟨a, e, hQ⟩
  unfold f_X12_greater at H
  refine rl_i0 dX12_greater_0 ?_
  refine rl_i1 dX12_greater_1 ?_
  refine ar_ic_le 9 dX12_greater_2 (by decide) (fun c1 => ?_) (fun c1 => ?_)
  · replace H := wp_t c1 H
    refine rl_i1 dX12_greater_9 ?_
    replace H := wp_s H
    exact ar_iret dX12_greater_10 rfl rfl H
  · replace H := wp_f c1 H
    refine rl_i0 dX12_greater_5 ?_
    refine ar_goto 10 dX12_greater_6 (by decide) ?_
    replace H := wp_s H
    exact ar_iret dX12_greater_10 rfl rfl H
noncomputable def f_X12_lesser (x0 : Int32) (x1 : Int32) : Option Int32 :=
  if x1 ≤ x0 then (some (x1)) else (some (x0))
theorem c_X12_lesser {x0 : Int32} {x1 : Int32} {h : am_H} {a : Int32} (e : f_X12_lesser x0 x1 = some a) : am_Mi yX12_lesser cX12_lesser 2 (some .int) 0 0 [am_i x0, am_i x1] h a h := by
  refine am_M.ofi (A := [some (am_i x0), some (am_i x1)]) (by decide +kernel) rfl (ble rfl) (fun Q hQ => ?_)
  have H : wp (f_X12_lesser x0 x1) (fun a => Q (some (am_i a)) h) := ⟨a, e, hQ⟩
  unfold f_X12_lesser at H
  refine rl_i0 dX12_lesser_0 ?_
  refine rl_i1 dX12_lesser_1 ?_
  refine ar_ic_ge 9 dX12_lesser_2 (by decide) (fun c1 => ?_) (fun c1 => ?_)
  · replace H := wp_t c1 H
    refine rl_i1 dX12_lesser_9 ?_
    replace H := wp_s H
    exact ar_iret dX12_lesser_10 rfl rfl H
  · replace H := wp_f c1 H
    refine rl_i0 dX12_lesser_5 ?_
    refine ar_goto 10 dX12_lesser_6 (by decide) ?_
    replace H := wp_s H
    exact ar_iret dX12_lesser_10 rfl rfl H
noncomputable def f_X12_tenths (x1 : Int32) (h : am_H) : Option Int32 :=
  (f_X12_ofArc x1 (iI (1)) h).bind (fun a1 => some (((iI (10)) * a1)))
theorem c_X12_tenths {x1 : Int32} {h : am_H} {a : Int32} (e : f_X12_tenths x1 h = some a) : am_Mi yX12_tenths cX12_tenths 2 (some .int) 1 22 [am_r (.inl 0) 0, am_i x1] h a h := by
  refine am_M.ofi (A := [some (am_r (.inl 0) 0), some (am_i x1)]) (by decide +kernel) rfl (ble rfl) (fun Q hQ => ?_)
  have H : wp (f_X12_tenths x1 h) (fun a => Q (some (am_i a)) h) := ⟨a, e, hQ⟩
  unfold f_X12_tenths at H
  refine ar_bipush (iI (10)) dX12_tenths_0 rfl ?_
  refine rl_a0 dX12_tenths_2 ?_
  refine rl_i1 dX12_tenths_3 ?_
  refine ar_iconst (iI (1)) dX12_tenths_4 rfl ?_
  obtain ⟨a1, e1, H⟩ := wp_b H
  refine rc_V2i dX12_tenths_5 ml_X12_256 mc_X12_ofArc (c_X12_ofArc e1) rfl rfl rfl (ok_M rfl) rfl rfl rfl ?_
  refine ar_imul dX12_tenths_8 ?_
  replace H := wp_s H
  exact ar_iret dX12_tenths_9 rfl rfl H
noncomputable def s_X12_turnBefore  (h : am_H) : am_S Unit → Option (am_S Unit ⊕ Int32) := fun s => match s with
  | (4, [x1, x2, x3], [], [], ()) => if x1 ≤ x3 then (some (.inr (x2))) else ((f_X12_tenths x3 h).bind (fun a1 => some (.inl (4, [x1, (x2 + a1), (x3 + 1)], [], [], ()))))
  | _ => none
noncomputable def f_X12_turnBefore_4  (x1 : Int32) (x2 : Int32) (x3 : Int32) (h : am_H) : Option Int32 := lp (s_X12_turnBefore h) (4, [x1, x2, x3], [], [], ())
theorem e_X12_turnBefore_4  (x1 : Int32) (x2 : Int32) (x3 : Int32) (h : am_H) : f_X12_turnBefore_4 x1 x2 x3 h = (if x1 ≤ x3 then (some (x2)) else ((f_X12_tenths x3 h).bind (fun a1 => f_X12_turnBefore_4 x1 (x2 + a1) (x3 + 1) h))) := by
  show lp _ _ = _
  rw [lp_eq, s_X12_turnBefore]
  simp only [lpk_i, lpk_b, lpk_l, lpk_n, lpk_j, lpk_r] <;> rfl
noncomputable def f_X12_turnBefore (x1 : Int32) (h : am_H) : Option Int32 :=
  f_X12_turnBefore_4 x1 (iI (0)) (iI (0)) h
theorem c_X12_turnBefore_L  {h : am_H} {Q : Option am_v → am_H → Prop} : ∀ s, wp (lp (s_X12_turnBefore h) s) (fun a => Q (some (am_i a)) h) → ((∀ x1 x2 x3, s = (4, [x1, x2, x3], [], [], ()) → am_V RX12 cX12_turnBefore 4 (some .int) 2 43 0 0 none (am_Tm cX12_turnBefore (some .int) Q) 0 0 4 [some (am_r (.inl 0) 0), some (am_i x1), some (am_i x2), some (am_i x3)] [] h)) := by
  refine lp_ind _ _ (fun s H => fun x1 x2 x3 e => ?_)
  · subst e
    rw [s_X12_turnBefore] at H
    refine rl_i3 dX12_turnBefore_4 ?_
    refine rl_i1 dX12_turnBefore_5 ?_
    refine ar_ic_ge 23 dX12_turnBefore_6 (by decide) (fun c1 => ?_) (fun c1 => ?_)
    · replace H := wp_t c1 H
      refine rl_i2 dX12_turnBefore_23 ?_
      replace H := lp_re H
      exact ar_iret dX12_turnBefore_24 rfl rfl H
    · replace H := wp_f c1 H
      refine rl_i2 dX12_turnBefore_9 ?_
      refine rl_a0 dX12_turnBefore_10 ?_
      refine rl_i3 dX12_turnBefore_11 ?_
      obtain ⟨a1, e1, H⟩ := wp_b H
      refine rc_V1i dX12_turnBefore_12 ml_X12_259 mc_X12_tenths (c_X12_tenths e1) rfl rfl rfl (ok_M rfl) rfl rfl rfl ?_
      refine ar_iadd dX12_turnBefore_15 ?_
      refine rs_i2 dX12_turnBefore_16 rfl trivial ?_
      refine rn_1_3 dX12_turnBefore_17 rfl trivial ?_
      refine ar_goto 4 dX12_turnBefore_20 (by decide) ?_
      exact am_V.wk (am_s (am_s (am_s (am_s am_0)))) ((lp_in H) _ _ _ rfl)
theorem c_X12_turnBefore {x1 : Int32} {h : am_H} {a : Int32} (e : f_X12_turnBefore x1 h = some a) : am_Mi yX12_turnBefore cX12_turnBefore 4 (some .int) 2 43 [am_r (.inl 0) 0, am_i x1] h a h := by
  refine am_M.ofi (A := [some (am_r (.inl 0) 0), some (am_i x1), none, none]) (by decide +kernel) rfl (ble rfl) (fun Q hQ => ?_)
  have H : wp (f_X12_turnBefore x1 h) (fun a => Q (some (am_i a)) h) := ⟨a, e, hQ⟩
  unfold f_X12_turnBefore at H
  refine ar_iconst (iI (0)) dX12_turnBefore_0 rfl ?_
  refine rs_i2 dX12_turnBefore_1 rfl trivial ?_
  refine ar_iconst (iI (0)) dX12_turnBefore_2 rfl ?_
  refine rs_i3 dX12_turnBefore_3 rfl trivial ?_
  exact am_V.wk (am_s (am_s (am_s (am_s am_0)))) ((c_X12_turnBefore_L  _ H) _ _ _ rfl)
noncomputable def f_X12_wholeTurn  (h : am_H) : Option Int32 :=
  if ib (iI (0)) 408 then ((f_X12_turnBefore (h.1 (.inl 0) 2 ((iI (0))).toNatClampNeg) h).bind (fun a1 => some (a1))) else none
theorem c_X12_wholeTurn  {h : am_H} {a : Int32} (e : f_X12_wholeTurn h = some a) : am_Mi yX12_wholeTurn cX12_wholeTurn 1 (some .int) 3 66 [am_r (.inl 0) 0] h a h := by
  refine am_M.ofi (A := [some (am_r (.inl 0) 0)]) (by decide +kernel) rfl (ble rfl) (fun Q hQ => ?_)
  have H : wp (f_X12_wholeTurn h) (fun a => Q (some (am_i a)) h) := ⟨a, e, hQ⟩
  unfold f_X12_wholeTurn at H
  refine rl_a0 dX12_wholeTurn_0 ?_
  refine rl_a0 dX12_wholeTurn_1 ?_
  refine rg_R (.inl 0) 2 dX12_wholeTurn_2 fg_X12_20 rfl rfl rfl (ok_M rfl) ?_
  refine ar_iconst (iI (0)) dX12_wholeTurn_5 rfl ?_
  obtain ⟨b1, H⟩ := wp_g H
  refine ar_iald dX12_wholeTurn_6 rfl (ok_M rfl) (ib_in b1) ?_
  obtain ⟨a1, e1, H⟩ := wp_b H
  refine rc_V1i dX12_wholeTurn_7 ml_X12_262 mc_X12_turnBefore (c_X12_turnBefore e1) rfl rfl rfl (ok_M rfl) rfl rfl rfl ?_
  replace H := wp_s H
  exact ar_iret dX12_wholeTurn_10 rfl rfl H
noncomputable def s_X12_arcOf  (h : am_H) : am_S Unit → Option (am_S Unit ⊕ Int32) := fun s => match s with
  | (4, [x1, x2, x3], [], [], ()) => if ib (iI (0)) 408 then (if (h.1 (.inl 0) 2 ((iI (0))).toNatClampNeg) ≤ x3 then (if ib (iI (0)) 408 then (some (.inr (((h.1 (.inl 0) 2 ((iI (0))).toNatClampNeg) - (iI (1)))))) else none) else ((f_X12_tenths x3 h).bind (fun a1 => if (x2 + a1) ≤ x1 then (some (.inl (4, [x1, (x2 + a1), (x3 + 1)], [], [], ()))) else (some (.inr (x3)))))) else none
  | _ => none
noncomputable def f_X12_arcOf_4  (x1 : Int32) (x2 : Int32) (x3 : Int32) (h : am_H) : Option Int32 := lp (s_X12_arcOf h) (4, [x1, x2, x3], [], [], ())
theorem e_X12_arcOf_4  (x1 : Int32) (x2 : Int32) (x3 : Int32) (h : am_H) : f_X12_arcOf_4 x1 x2 x3 h = (if ib (iI (0)) 408 then (if (h.1 (.inl 0) 2 ((iI (0))).toNatClampNeg) ≤ x3 then (if ib (iI (0)) 408 then (some (((h.1 (.inl 0) 2 ((iI (0))).toNatClampNeg) - (iI (1))))) else none) else ((f_X12_tenths x3 h).bind (fun a1 => if (x2 + a1) ≤ x1 then (f_X12_arcOf_4 x1 (x2 + a1) (x3 + 1) h) else (some (x3))))) else none) := by
  show lp _ _ = _
  rw [lp_eq, s_X12_arcOf]
  simp only [lpk_i, lpk_b, lpk_l, lpk_n, lpk_j, lpk_r] <;> rfl
noncomputable def f_X12_arcOf (x1 : Int32) (h : am_H) : Option Int32 :=
  f_X12_arcOf_4 x1 (iI (0)) (iI (0)) h
theorem c_X12_arcOf_L  {h : am_H} {Q : Option am_v → am_H → Prop} : ∀ s, wp (lp (s_X12_arcOf h) s) (fun a => Q (some (am_i a)) h) → ((∀ x1 x2 x3, s = (4, [x1, x2, x3], [], [], ()) → am_V RX12 cX12_arcOf 4 (some .int) 2 43 0 0 none (am_Tm cX12_arcOf (some .int) Q) 0 0 4 [some (am_r (.inl 0) 0), some (am_i x1), some (am_i x2), some (am_i x3)] [] h)) := by
  refine lp_ind _ _ (fun s H => fun x1 x2 x3 e => ?_)
  · subst e
    rw [s_X12_arcOf] at H
    refine rl_i3 dX12_arcOf_4 ?_
    refine rl_a0 dX12_arcOf_5 ?_
    refine rg_R (.inl 0) 2 dX12_arcOf_6 fg_X12_20 rfl rfl rfl (ok_M rfl) ?_
    refine ar_iconst (iI (0)) dX12_arcOf_9 rfl ?_
    obtain ⟨b1, H⟩ := wp_g H
    refine ar_iald dX12_arcOf_10 rfl (ok_M rfl) (ib_in b1) ?_
    refine ar_ic_ge 35 dX12_arcOf_11 (by decide) (fun c1 => ?_) (fun c1 => ?_)
    · replace H := wp_t c1 H
      refine rl_a0 dX12_arcOf_35 ?_
      refine rg_R (.inl 0) 2 dX12_arcOf_36 fg_X12_20 rfl rfl rfl (ok_M rfl) ?_
      refine ar_iconst (iI (0)) dX12_arcOf_39 rfl ?_
      obtain ⟨b2, H⟩ := wp_g H
      refine ar_iald dX12_arcOf_40 rfl (ok_M rfl) (ib_in b2) ?_
      refine ar_iconst (iI (1)) dX12_arcOf_41 rfl ?_
      refine ar_isub dX12_arcOf_42 ?_
      replace H := lp_re H
      exact ar_iret dX12_arcOf_43 rfl rfl H
    · replace H := wp_f c1 H
      refine rl_i2 dX12_arcOf_14 ?_
      refine rl_a0 dX12_arcOf_15 ?_
      refine rl_i3 dX12_arcOf_16 ?_
      obtain ⟨a1, e1, H⟩ := wp_b H
      refine rc_V1i dX12_arcOf_17 ml_X12_259 mc_X12_tenths (c_X12_tenths e1) rfl rfl rfl (ok_M rfl) rfl rfl rfl ?_
      refine ar_iadd dX12_arcOf_20 ?_
      refine rs_i2 dX12_arcOf_21 rfl trivial ?_
      refine rl_i2 dX12_arcOf_22 ?_
      refine rl_i1 dX12_arcOf_23 ?_
      refine ar_ic_le 29 dX12_arcOf_24 (by decide) (fun c2 => ?_) (fun c2 => ?_)
      · replace H := wp_t c2 H
        refine rn_1_3 dX12_arcOf_29 rfl trivial ?_
        refine ar_goto 4 dX12_arcOf_32 (by decide) ?_
        exact am_V.wk (am_s (am_s (am_s (am_s am_0)))) ((lp_in H) _ _ _ rfl)
      · replace H := wp_f c2 H
        refine rl_i3 dX12_arcOf_27 ?_
        replace H := lp_re H
        exact ar_iret dX12_arcOf_28 rfl rfl H
theorem c_X12_arcOf {x1 : Int32} {h : am_H} {a : Int32} (e : f_X12_arcOf x1 h = some a) : am_Mi yX12_arcOf cX12_arcOf 4 (some .int) 2 43 [am_r (.inl 0) 0, am_i x1] h a h := by
  refine am_M.ofi (A := [some (am_r (.inl 0) 0), some (am_i x1), none, none]) (by decide +kernel) rfl (ble rfl) (fun Q hQ => ?_)
  have H : wp (f_X12_arcOf x1 h) (fun a => Q (some (am_i a)) h) := ⟨a, e, hQ⟩
  unfold f_X12_arcOf at H
  refine ar_iconst (iI (0)) dX12_arcOf_0 rfl ?_
  refine rs_i2 dX12_arcOf_1 rfl trivial ?_
  refine ar_iconst (iI (0)) dX12_arcOf_2 rfl ?_
  refine rs_i3 dX12_arcOf_3 rfl trivial ?_
  exact am_V.wk (am_s (am_s (am_s (am_s am_0)))) ((c_X12_arcOf_L  _ H) _ _ _ rfl)
noncomputable def s_X12_partsBefore  (h : am_H) : am_S Unit → Option (am_S Unit ⊕ Int32) := fun s => match s with
  | (4, [x1, x2, x3], [], [], ()) => if x1 ≤ x3 then (some (.inr (x2))) else ((f_X12_ofArc x3 (iI (0)) h).bind (fun a1 => (f_X12_tenths x3 h).bind (fun a2 => some (.inl (4, [x1, (x2 + (a1 * a2)), (x3 + 1)], [], [], ())))))
  | _ => none
noncomputable def f_X12_partsBefore_4  (x1 : Int32) (x2 : Int32) (x3 : Int32) (h : am_H) : Option Int32 := lp (s_X12_partsBefore h) (4, [x1, x2, x3], [], [], ())
theorem e_X12_partsBefore_4  (x1 : Int32) (x2 : Int32) (x3 : Int32) (h : am_H) : f_X12_partsBefore_4 x1 x2 x3 h = (if x1 ≤ x3 then (some (x2)) else ((f_X12_ofArc x3 (iI (0)) h).bind (fun a1 => (f_X12_tenths x3 h).bind (fun a2 => f_X12_partsBefore_4 x1 (x2 + (a1 * a2)) (x3 + 1) h)))) := by
  show lp _ _ = _
  rw [lp_eq, s_X12_partsBefore]
  simp only [lpk_i, lpk_b, lpk_l, lpk_n, lpk_j, lpk_r] <;> rfl
noncomputable def f_X12_partsBefore (x1 : Int32) (h : am_H) : Option Int32 :=
  f_X12_partsBefore_4 x1 (iI (0)) (iI (0)) h
theorem c_X12_partsBefore_L  {h : am_H} {Q : Option am_v → am_H → Prop} : ∀ s, wp (lp (s_X12_partsBefore h) s) (fun a => Q (some (am_i a)) h) → ((∀ x1 x2 x3, s = (4, [x1, x2, x3], [], [], ()) → am_V RX12 cX12_partsBefore 4 (some .int) 2 43 0 0 none (am_Tm cX12_partsBefore (some .int) Q) 0 0 4 [some (am_r (.inl 0) 0), some (am_i x1), some (am_i x2), some (am_i x3)] [] h)) := by
  refine lp_ind _ _ (fun s H => fun x1 x2 x3 e => ?_)
  · subst e
    rw [s_X12_partsBefore] at H
    refine rl_i3 dX12_partsBefore_4 ?_
    refine rl_i1 dX12_partsBefore_5 ?_
    refine ar_ic_ge 30 dX12_partsBefore_6 (by decide) (fun c1 => ?_) (fun c1 => ?_)
    · replace H := wp_t c1 H
      refine rl_i2 dX12_partsBefore_30 ?_
      replace H := lp_re H
      exact ar_iret dX12_partsBefore_31 rfl rfl H
    · replace H := wp_f c1 H
      refine rl_i2 dX12_partsBefore_9 ?_
      refine rl_a0 dX12_partsBefore_10 ?_
      refine rl_i3 dX12_partsBefore_11 ?_
      refine ar_iconst (iI (0)) dX12_partsBefore_12 rfl ?_
      obtain ⟨a1, e1, H⟩ := wp_b H
      refine rc_V2i dX12_partsBefore_13 ml_X12_256 mc_X12_ofArc (c_X12_ofArc e1) rfl rfl rfl (ok_M rfl) rfl rfl rfl ?_
      refine rl_a0 dX12_partsBefore_16 ?_
      refine rl_i3 dX12_partsBefore_17 ?_
      obtain ⟨a2, e2, H⟩ := wp_b H
      refine rc_V1i dX12_partsBefore_18 ml_X12_259 mc_X12_tenths (c_X12_tenths e2) rfl rfl rfl (ok_M rfl) rfl rfl rfl ?_
      refine ar_imul dX12_partsBefore_21 ?_
      refine ar_iadd dX12_partsBefore_22 ?_
      refine rs_i2 dX12_partsBefore_23 rfl trivial ?_
      refine rn_1_3 dX12_partsBefore_24 rfl trivial ?_
      refine ar_goto 4 dX12_partsBefore_27 (by decide) ?_
      exact am_V.wk (am_s (am_s (am_s (am_s am_0)))) ((lp_in H) _ _ _ rfl)
theorem c_X12_partsBefore {x1 : Int32} {h : am_H} {a : Int32} (e : f_X12_partsBefore x1 h = some a) : am_Mi yX12_partsBefore cX12_partsBefore 4 (some .int) 2 43 [am_r (.inl 0) 0, am_i x1] h a h := by
  refine am_M.ofi (A := [some (am_r (.inl 0) 0), some (am_i x1), none, none]) (by decide +kernel) rfl (ble rfl) (fun Q hQ => ?_)
  have H : wp (f_X12_partsBefore x1 h) (fun a => Q (some (am_i a)) h) := ⟨a, e, hQ⟩
  unfold f_X12_partsBefore at H
  refine ar_iconst (iI (0)) dX12_partsBefore_0 rfl ?_
  refine rs_i2 dX12_partsBefore_1 rfl trivial ?_
  refine ar_iconst (iI (0)) dX12_partsBefore_2 rfl ?_
  refine rs_i3 dX12_partsBefore_3 rfl trivial ?_
  exact am_V.wk (am_s (am_s (am_s (am_s am_0)))) ((c_X12_partsBefore_L  _ H) _ _ _ rfl)
noncomputable def f_X12_wholeParts  (h : am_H) : Option Int32 :=
  if ib (iI (0)) 408 then ((f_X12_partsBefore (h.1 (.inl 0) 2 ((iI (0))).toNatClampNeg) h).bind (fun a1 => some (a1))) else none
theorem c_X12_wholeParts  {h : am_H} {a : Int32} (e : f_X12_wholeParts h = some a) : am_Mi yX12_wholeParts cX12_wholeParts 1 (some .int) 3 66 [am_r (.inl 0) 0] h a h := by
  refine am_M.ofi (A := [some (am_r (.inl 0) 0)]) (by decide +kernel) rfl (ble rfl) (fun Q hQ => ?_)
  have H : wp (f_X12_wholeParts h) (fun a => Q (some (am_i a)) h) := ⟨a, e, hQ⟩
  unfold f_X12_wholeParts at H
  refine rl_a0 dX12_wholeParts_0 ?_
  refine rl_a0 dX12_wholeParts_1 ?_
  refine rg_R (.inl 0) 2 dX12_wholeParts_2 fg_X12_20 rfl rfl rfl (ok_M rfl) ?_
  refine ar_iconst (iI (0)) dX12_wholeParts_5 rfl ?_
  obtain ⟨b1, H⟩ := wp_g H
  refine ar_iald dX12_wholeParts_6 rfl (ok_M rfl) (ib_in b1) ?_
  obtain ⟨a1, e1, H⟩ := wp_b H
  refine rc_V1i dX12_wholeParts_7 ml_X12_265 mc_X12_partsBefore (c_X12_partsBefore e1) rfl rfl rfl (ok_M rfl) rfl rfl rfl ?_
  replace H := wp_s H
  exact ar_iret dX12_wholeParts_10 rfl rfl H
noncomputable def f_X12_partsOf (x1 : Int32) (h : am_H) : Option Int32 :=
  (f_X12_arcOf x1 h).bind (fun a1 => if a1 = (iI (-1)) then (some ((iI (0)))) else ((f_X12_partsBefore a1 h).bind (fun a2 => (f_X12_ofArc a1 (iI (0)) h).bind (fun a3 => (f_X12_turnBefore a1 h).bind (fun a4 => some ((a2 + (a3 * (x1 - a4)))))))))
theorem c_X12_partsOf {x1 : Int32} {h : am_H} {a : Int32} (e : f_X12_partsOf x1 h = some a) : am_Mi yX12_partsOf cX12_partsOf 3 (some .int) 3 66 [am_r (.inl 0) 0, am_i x1] h a h := by
  refine am_M.ofi (A := [some (am_r (.inl 0) 0), some (am_i x1), none]) (by decide +kernel) rfl (ble rfl) (fun Q hQ => ?_)
  have H : wp (f_X12_partsOf x1 h) (fun a => Q (some (am_i a)) h) := ⟨a, e, hQ⟩
  unfold f_X12_partsOf at H
  refine rl_a0 dX12_partsOf_0 ?_
  refine rl_i1 dX12_partsOf_1 ?_
  obtain ⟨a1, e1, H⟩ := wp_b H
  refine rc_V1i dX12_partsOf_2 ml_X12_268 mc_X12_arcOf (c_X12_arcOf e1) rfl rfl rfl (ok_M rfl) rfl rfl rfl ?_
  refine rs_i2 dX12_partsOf_5 rfl trivial ?_
  refine rl_i2 dX12_partsOf_6 ?_
  refine ar_iconst (iI (-1)) dX12_partsOf_7 rfl ?_
  refine ar_ic_ne 15 dX12_partsOf_8 (by decide) (fun c1 => ?_) (fun c1 => ?_)
  · replace H := wp_f c1 H
    refine rl_a0 dX12_partsOf_15 ?_
    refine rl_i2 dX12_partsOf_16 ?_
    obtain ⟨a2, e2, H⟩ := wp_b H
    refine rc_V1i dX12_partsOf_17 ml_X12_265 mc_X12_partsBefore (c_X12_partsBefore e2) rfl rfl rfl (ok_M rfl) rfl rfl rfl ?_
    refine rl_a0 dX12_partsOf_20 ?_
    refine rl_i2 dX12_partsOf_21 ?_
    refine ar_iconst (iI (0)) dX12_partsOf_22 rfl ?_
    obtain ⟨a3, e3, H⟩ := wp_b H
    refine rc_V2i dX12_partsOf_23 ml_X12_256 mc_X12_ofArc (c_X12_ofArc e3) rfl rfl rfl (ok_M rfl) rfl rfl rfl ?_
    refine rl_i1 dX12_partsOf_26 ?_
    refine rl_a0 dX12_partsOf_27 ?_
    refine rl_i2 dX12_partsOf_28 ?_
    obtain ⟨a4, e4, H⟩ := wp_b H
    refine rc_V1i dX12_partsOf_29 ml_X12_262 mc_X12_turnBefore (c_X12_turnBefore e4) rfl rfl rfl (ok_M rfl) rfl rfl rfl ?_
    refine ar_isub dX12_partsOf_32 ?_
    refine ar_imul dX12_partsOf_33 ?_
    refine ar_iadd dX12_partsOf_34 ?_
    replace H := wp_s H
    exact ar_iret dX12_partsOf_35 rfl rfl H
  · replace H := wp_t c1 H
    refine ar_iconst (iI (0)) dX12_partsOf_11 rfl ?_
    refine ar_goto 35 dX12_partsOf_12 (by decide) ?_
    replace H := wp_s H
    exact ar_iret dX12_partsOf_35 rfl rfl H
noncomputable def s_X12_bend  (h : am_H) : am_S Unit → Option (am_S Unit ⊕ Int32) := fun s => match s with
  | (7, [x2, x3, x4], [], [], ()) => if ib (iI (0)) 408 then (if (h.1 (.inl 0) 2 ((iI (0))).toNatClampNeg) ≤ x4 then (some (.inr (x3))) else ((f_X12_tenths x4 h).bind (fun a1 => (f_X12_lesser x2 a1).bind (fun a2 => (f_X12_ofArc x4 (iI (2)) h).bind (fun a3 => if a3 = (iI (1)) then (some (.inl (50, [x2, x4, a2, x3, (- a2)], [], [], ()))) else (some (.inl (50, [x2, x4, a2, x3, a2], [], [], ())))))))) else none
  | (50, [x2, x4, x5, y0, y1], [], [], ()) => some (.inl (7, [(x2 - x5), (y0 + y1), (x4 + 1)], [], [], ()))
  | _ => none
noncomputable def f_X12_bend_7  (x2 : Int32) (x3 : Int32) (x4 : Int32) (h : am_H) : Option Int32 := lp (s_X12_bend h) (7, [x2, x3, x4], [], [], ())
noncomputable def f_X12_bend_50  (x2 : Int32) (x4 : Int32) (x5 : Int32) (y0 : Int32) (y1 : Int32) (h : am_H) : Option Int32 := lp (s_X12_bend h) (50, [x2, x4, x5, y0, y1], [], [], ())
theorem e_X12_bend_7  (x2 : Int32) (x3 : Int32) (x4 : Int32) (h : am_H) : f_X12_bend_7 x2 x3 x4 h = (if ib (iI (0)) 408 then (if (h.1 (.inl 0) 2 ((iI (0))).toNatClampNeg) ≤ x4 then (some (x3)) else ((f_X12_tenths x4 h).bind (fun a1 => (f_X12_lesser x2 a1).bind (fun a2 => (f_X12_ofArc x4 (iI (2)) h).bind (fun a3 => if a3 = (iI (1)) then (f_X12_bend_50 x2 x4 a2 x3 (- a2) h) else (f_X12_bend_50 x2 x4 a2 x3 a2 h)))))) else none) := by
  show lp _ _ = _
  rw [lp_eq, s_X12_bend]
  simp only [lpk_i, lpk_b, lpk_l, lpk_n, lpk_j, lpk_r] <;> rfl
theorem e_X12_bend_50  (x2 : Int32) (x4 : Int32) (x5 : Int32) (y0 : Int32) (y1 : Int32) (h : am_H) : f_X12_bend_50 x2 x4 x5 y0 y1 h = (f_X12_bend_7 (x2 - x5) (y0 + y1) (x4 + 1) h) := by
  show lp _ _ = _
  rw [lp_eq, s_X12_bend]
  simp only [lpk_i, lpk_b, lpk_l, lpk_n, lpk_j, lpk_r] <;> rfl
noncomputable def f_X12_bend (x1 : Int32) (h : am_H) : Option Int32 :=
  f_X12_bend_7 x1 (iI (0)) (iI (0)) h
theorem c_X12_bend_L  {h : am_H} {Q : Option am_v → am_H → Prop} : ∀ s, wp (lp (s_X12_bend h) s) (fun a => Q (some (am_i a)) h) → ((∀ x2 x3 x4, s = (7, [x2, x3, x4], [], [], ()) → am_V RX12 cX12_bend 6 (some .int) 2 43 0 0 none (am_Tm cX12_bend (some .int) Q) 0 0 7 [some (am_r (.inl 0) 0), none, some (am_i x2), some (am_i x3), some (am_i x4), none] [] h) ∧ (∀ x2 x4 x5 y0 y1, s = (50, [x2, x4, x5, y0, y1], [], [], ()) → am_V RX12 cX12_bend 6 (some .int) 2 43 0 0 none (am_Tm cX12_bend (some .int) Q) 0 0 50 [some (am_r (.inl 0) 0), none, some (am_i x2), none, some (am_i x4), some (am_i x5)] [am_i y1, am_i y0] h)) := by
  refine lp_ind _ _ (fun s H => ⟨fun x2 x3 x4 e => ?_, fun x2 x4 x5 y0 y1 e => ?_⟩)
  · subst e
    rw [s_X12_bend] at H
    refine rl_i4 dX12_bend_7 ?_
    refine rl_a0 dX12_bend_9 ?_
    refine rg_R (.inl 0) 2 dX12_bend_10 fg_X12_20 rfl rfl rfl (ok_M rfl) ?_
    refine ar_iconst (iI (0)) dX12_bend_13 rfl ?_
    obtain ⟨b1, H⟩ := wp_g H
    refine ar_iald dX12_bend_14 rfl (ok_M rfl) (ib_in b1) ?_
    refine ar_ic_ge 63 dX12_bend_15 (by decide) (fun c1 => ?_) (fun c1 => ?_)
    · replace H := wp_t c1 H
      refine rl_i3 dX12_bend_63 ?_
      replace H := lp_re H
      exact ar_iret dX12_bend_64 rfl rfl H
    · replace H := wp_f c1 H
      refine rl_i2 dX12_bend_18 ?_
      refine rl_a0 dX12_bend_19 ?_
      refine rl_i4 dX12_bend_20 ?_
      obtain ⟨a1, e1, H⟩ := wp_b H
      refine rc_V1i dX12_bend_22 ml_X12_259 mc_X12_tenths (c_X12_tenths e1) rfl rfl rfl (ok_M rfl) rfl rfl rfl ?_
      obtain ⟨a2, e2, H⟩ := wp_b H
      refine rc_S2i dX12_bend_25 ml_X12_271 mc_X12_lesser (c_X12_lesser e2) rfl rfl rfl ?_
      refine rs_i5 dX12_bend_28 rfl trivial ?_
      refine rl_i3 dX12_bend_30 ?_
      refine rl_a0 dX12_bend_31 ?_
      refine rl_i4 dX12_bend_32 ?_
      refine ar_iconst (iI (2)) dX12_bend_34 rfl ?_
      obtain ⟨a3, e3, H⟩ := wp_b H
      refine rc_V2i dX12_bend_35 ml_X12_256 mc_X12_ofArc (c_X12_ofArc e3) rfl rfl rfl (ok_M rfl) rfl rfl rfl ?_
      refine ar_iconst (iI (1)) dX12_bend_38 rfl ?_
      refine ar_ic_ne 48 dX12_bend_39 (by decide) (fun c2 => ?_) (fun c2 => ?_)
      · replace H := wp_f c2 H
        refine rl_i5 dX12_bend_48 ?_
        exact am_V.wk (am_s (am_n (am_s (am_n (am_s (am_s am_0)))))) ((lp_in H).2 _ _ _ _ _ rfl)
      · replace H := wp_t c2 H
        refine rl_i5 dX12_bend_42 ?_
        refine ar_ineg dX12_bend_44 ?_
        refine ar_goto 50 dX12_bend_45 (by decide) ?_
        exact am_V.wk (am_s (am_n (am_s (am_n (am_s (am_s am_0)))))) ((lp_in H).2 _ _ _ _ _ rfl)
  · subst e
    rw [s_X12_bend] at H
    refine ar_iadd dX12_bend_50 ?_
    refine rs_i3 dX12_bend_51 rfl trivial ?_
    refine rl_i2 dX12_bend_52 ?_
    refine rl_i5 dX12_bend_53 ?_
    refine ar_isub dX12_bend_55 ?_
    refine rs_i2 dX12_bend_56 rfl trivial ?_
    refine rn_1_4 dX12_bend_57 rfl trivial ?_
    refine ar_goto 7 dX12_bend_60 (by decide) ?_
    exact am_V.wk (am_s (am_n (am_s (am_s (am_s (am_n am_0)))))) ((lp_in H).1 _ _ _ rfl)
theorem c_X12_bend {x1 : Int32} {h : am_H} {a : Int32} (e : f_X12_bend x1 h = some a) : am_Mi yX12_bend cX12_bend 6 (some .int) 2 43 [am_r (.inl 0) 0, am_i x1] h a h := by
  refine am_M.ofi (A := [some (am_r (.inl 0) 0), some (am_i x1), none, none, none, none]) (by decide +kernel) rfl (ble rfl) (fun Q hQ => ?_)
  have H : wp (f_X12_bend x1 h) (fun a => Q (some (am_i a)) h) := ⟨a, e, hQ⟩
  unfold f_X12_bend at H
  refine rl_i1 dX12_bend_0 ?_
  refine rs_i2 dX12_bend_1 rfl trivial ?_
  refine ar_iconst (iI (0)) dX12_bend_2 rfl ?_
  refine rs_i3 dX12_bend_3 rfl trivial ?_
  refine ar_iconst (iI (0)) dX12_bend_4 rfl ?_
  refine rs_i4 dX12_bend_5 rfl trivial ?_
  exact am_V.wk (am_s (am_n (am_s (am_s (am_s (am_n am_0)))))) ((c_X12_bend_L  _ H).1 _ _ _ rfl)
noncomputable def f_X12_headingOf (x1 : Int32) (h : am_H) : Option Int32 :=
  (f_X12_bend x1 h).bind (fun a1 => if (iI (3600)) = 0 then none else (if 0 ≤ (a1 - a1 / (iI (3600)) * (iI (3600))) then (some ((a1 - a1 / (iI (3600)) * (iI (3600))))) else (some (((a1 - a1 / (iI (3600)) * (iI (3600))) + (iI (3600)))))))
theorem c_X12_headingOf {x1 : Int32} {h : am_H} {a : Int32} (e : f_X12_headingOf x1 h = some a) : am_Mi yX12_headingOf cX12_headingOf 3 (some .int) 3 68 [am_r (.inl 0) 0, am_i x1] h a h := by
  refine am_M.ofi (A := [some (am_r (.inl 0) 0), some (am_i x1), none]) (by decide +kernel) rfl (ble rfl) (fun Q hQ => ?_)
  have H : wp (f_X12_headingOf x1 h) (fun a => Q (some (am_i a)) h) := ⟨a, e, hQ⟩
  unfold f_X12_headingOf at H
  refine rl_a0 dX12_headingOf_0 ?_
  refine rl_i1 dX12_headingOf_1 ?_
  obtain ⟨a1, e1, H⟩ := wp_b H
  refine rc_V1i dX12_headingOf_2 ml_X12_274 mc_X12_bend (c_X12_bend e1) rfl rfl rfl (ok_M rfl) rfl rfl rfl ?_
  refine ar_sipush (iI (3600)) dX12_headingOf_5 rfl ?_
  obtain ⟨b1, H⟩ := wp_d H
  refine ar_irem dX12_headingOf_8 b1 ?_
  refine rs_i2 dX12_headingOf_9 rfl trivial ?_
  refine rl_i2 dX12_headingOf_10 ?_
  refine ar_if_ge 22 dX12_headingOf_11 (by decide) (fun c1 => ?_) (fun c1 => ?_)
  · replace H := wp_t c1 H
    refine rl_i2 dX12_headingOf_22 ?_
    replace H := wp_s H
    exact ar_iret dX12_headingOf_23 rfl rfl H
  · replace H := wp_f c1 H
    refine rl_i2 dX12_headingOf_14 ?_
    refine ar_sipush (iI (3600)) dX12_headingOf_15 rfl ?_
    refine ar_iadd dX12_headingOf_18 ?_
    refine ar_goto 23 dX12_headingOf_19 (by decide) ?_
    replace H := wp_s H
    exact ar_iret dX12_headingOf_23 rfl rfl H
noncomputable def f_X12_centre (x1 : Int32) (h : am_H) : Option Int32 :=
  (f_X12_wholeTurn h).bind (fun a1 => if ib (iI (1)) 408 then (if ((iI (2)) * (h.1 (.inl 0) 2 ((iI (1))).toNatClampNeg)) = 0 then none else (some ((((((iI (2)) * x1) + (iI (1))) * a1) / ((iI (2)) * (h.1 (.inl 0) 2 ((iI (1))).toNatClampNeg)))))) else none)
theorem c_X12_centre {x1 : Int32} {h : am_H} {a : Int32} (e : f_X12_centre x1 h = some a) : am_Mi yX12_centre cX12_centre 2 (some .int) 4 86 [am_r (.inl 0) 0, am_i x1] h a h := by
  refine am_M.ofi (A := [some (am_r (.inl 0) 0), some (am_i x1)]) (by decide +kernel) rfl (ble rfl) (fun Q hQ => ?_)
  have H : wp (f_X12_centre x1 h) (fun a => Q (some (am_i a)) h) := ⟨a, e, hQ⟩
  unfold f_X12_centre at H
  refine ar_iconst (iI (2)) dX12_centre_0 rfl ?_
  refine rl_i1 dX12_centre_1 ?_
  refine ar_imul dX12_centre_2 ?_
  refine ar_iconst (iI (1)) dX12_centre_3 rfl ?_
  refine ar_iadd dX12_centre_4 ?_
  refine rl_a0 dX12_centre_5 ?_
  obtain ⟨a1, e1, H⟩ := wp_b H
  refine rc_V0i dX12_centre_6 ml_X12_277 mc_X12_wholeTurn (c_X12_wholeTurn e1) rfl rfl rfl (ok_M rfl) rfl rfl rfl ?_
  refine ar_imul dX12_centre_9 ?_
  refine ar_iconst (iI (2)) dX12_centre_10 rfl ?_
  refine rl_a0 dX12_centre_11 ?_
  refine rg_R (.inl 0) 2 dX12_centre_12 fg_X12_20 rfl rfl rfl (ok_M rfl) ?_
  refine ar_iconst (iI (1)) dX12_centre_15 rfl ?_
  obtain ⟨b1, H⟩ := wp_g H
  refine ar_iald dX12_centre_16 rfl (ok_M rfl) (ib_in b1) ?_
  refine ar_imul dX12_centre_17 ?_
  obtain ⟨b2, H⟩ := wp_d H
  refine ar_idiv dX12_centre_18 b2 ?_
  replace H := wp_s H
  exact ar_iret dX12_centre_19 rfl rfl H
noncomputable def f_X12_widthOf (x1 : Int32) (h : am_H) : Option Int32 :=
  (f_X12_ofLetter x1 (iI (0)) h).bind (fun a1 => if ib ((iI (104)) + a1) 408 then (some ((h.1 (.inl 0) 2 (((iI (104)) + a1)).toNatClampNeg))) else none)
theorem c_X12_widthOf {x1 : Int32} {h : am_H} {a : Int32} (e : f_X12_widthOf x1 h = some a) : am_Mi yX12_widthOf cX12_widthOf 2 (some .int) 1 22 [am_r (.inl 0) 0, am_i x1] h a h := by
  refine am_M.ofi (A := [some (am_r (.inl 0) 0), some (am_i x1)]) (by decide +kernel) rfl (ble rfl) (fun Q hQ => ?_)
  have H : wp (f_X12_widthOf x1 h) (fun a => Q (some (am_i a)) h) := ⟨a, e, hQ⟩
  unfold f_X12_widthOf at H
  refine rl_a0 dX12_widthOf_0 ?_
  refine rg_R (.inl 0) 2 dX12_widthOf_1 fg_X12_20 rfl rfl rfl (ok_M rfl) ?_
  refine ar_bipush (iI (104)) dX12_widthOf_4 rfl ?_
  refine rl_a0 dX12_widthOf_6 ?_
  refine rl_i1 dX12_widthOf_7 ?_
  refine ar_iconst (iI (0)) dX12_widthOf_8 rfl ?_
  obtain ⟨a1, e1, H⟩ := wp_b H
  refine rc_V2i dX12_widthOf_9 ml_X12_280 mc_X12_ofLetter (c_X12_ofLetter e1) rfl rfl rfl (ok_M rfl) rfl rfl rfl ?_
  refine ar_iadd dX12_widthOf_12 ?_
  obtain ⟨b1, H⟩ := wp_g H
  refine ar_iald dX12_widthOf_13 rfl (ok_M rfl) (ib_in b1) ?_
  replace H := wp_s H
  exact ar_iret dX12_widthOf_14 rfl rfl H
noncomputable def f_X12_leftOf (x1 : Int32) (h : am_H) : Option Int32 :=
  (f_X12_centre x1 h).bind (fun a1 => (f_X12_partsOf a1 h).bind (fun a2 => (f_X12_widthOf x1 h).bind (fun a3 => some ((a2 - ((iI (500)) * a3))))))
theorem c_X12_leftOf {x1 : Int32} {h : am_H} {a : Int32} (e : f_X12_leftOf x1 h = some a) : am_Mi yX12_leftOf cX12_leftOf 2 (some .int) 5 107 [am_r (.inl 0) 0, am_i x1] h a h := by
  refine am_M.ofi (A := [some (am_r (.inl 0) 0), some (am_i x1)]) (by decide +kernel) rfl (ble rfl) (fun Q hQ => ?_)
  have H : wp (f_X12_leftOf x1 h) (fun a => Q (some (am_i a)) h) := ⟨a, e, hQ⟩
  unfold f_X12_leftOf at H
  refine rl_a0 dX12_leftOf_0 ?_
  refine rl_a0 dX12_leftOf_1 ?_
  refine rl_i1 dX12_leftOf_2 ?_
  obtain ⟨a1, e1, H⟩ := wp_b H
  refine rc_V1i dX12_leftOf_3 ml_X12_283 mc_X12_centre (c_X12_centre e1) rfl rfl rfl (ok_M rfl) rfl rfl rfl ?_
  obtain ⟨a2, e2, H⟩ := wp_b H
  refine rc_V1i dX12_leftOf_6 ml_X12_286 mc_X12_partsOf (c_X12_partsOf e2) rfl rfl rfl (ok_M rfl) rfl rfl rfl ?_
  refine ar_sipush (iI (500)) dX12_leftOf_9 rfl ?_
  refine rl_a0 dX12_leftOf_12 ?_
  refine rl_i1 dX12_leftOf_13 ?_
  obtain ⟨a3, e3, H⟩ := wp_b H
  refine rc_V1i dX12_leftOf_14 ml_X12_289 mc_X12_widthOf (c_X12_widthOf e3) rfl rfl rfl (ok_M rfl) rfl rfl rfl ?_
  refine ar_imul dX12_leftOf_17 ?_
  refine ar_isub dX12_leftOf_18 ?_
  replace H := wp_s H
  exact ar_iret dX12_leftOf_19 rfl rfl H
noncomputable def f_X12_rightOf (x1 : Int32) (h : am_H) : Option Int32 :=
  (f_X12_centre x1 h).bind (fun a1 => (f_X12_partsOf a1 h).bind (fun a2 => (f_X12_widthOf x1 h).bind (fun a3 => some ((a2 + ((iI (500)) * a3))))))
theorem c_X12_rightOf {x1 : Int32} {h : am_H} {a : Int32} (e : f_X12_rightOf x1 h = some a) : am_Mi yX12_rightOf cX12_rightOf 2 (some .int) 5 107 [am_r (.inl 0) 0, am_i x1] h a h := by
  refine am_M.ofi (A := [some (am_r (.inl 0) 0), some (am_i x1)]) (by decide +kernel) rfl (ble rfl) (fun Q hQ => ?_)
  have H : wp (f_X12_rightOf x1 h) (fun a => Q (some (am_i a)) h) := ⟨a, e, hQ⟩
  unfold f_X12_rightOf at H
  refine rl_a0 dX12_rightOf_0 ?_
  refine rl_a0 dX12_rightOf_1 ?_
  refine rl_i1 dX12_rightOf_2 ?_
  obtain ⟨a1, e1, H⟩ := wp_b H
  refine rc_V1i dX12_rightOf_3 ml_X12_283 mc_X12_centre (c_X12_centre e1) rfl rfl rfl (ok_M rfl) rfl rfl rfl ?_
  obtain ⟨a2, e2, H⟩ := wp_b H
  refine rc_V1i dX12_rightOf_6 ml_X12_286 mc_X12_partsOf (c_X12_partsOf e2) rfl rfl rfl (ok_M rfl) rfl rfl rfl ?_
  refine ar_sipush (iI (500)) dX12_rightOf_9 rfl ?_
  refine rl_a0 dX12_rightOf_12 ?_
  refine rl_i1 dX12_rightOf_13 ?_
  obtain ⟨a3, e3, H⟩ := wp_b H
  refine rc_V1i dX12_rightOf_14 ml_X12_289 mc_X12_widthOf (c_X12_widthOf e3) rfl rfl rfl (ok_M rfl) rfl rfl rfl ?_
  refine ar_imul dX12_rightOf_17 ?_
  refine ar_iadd dX12_rightOf_18 ?_
  replace H := wp_s H
  exact ar_iret dX12_rightOf_19 rfl rfl H
noncomputable def f_X12_roomOf_15  (x1 : Int32) (y0 : Int32) (h : am_H) : Option Int32 :=
  if ib (iI (1)) 408 then (if x1 = (h.1 (.inl 0) 2 ((iI (1))).toNatClampNeg) then ((f_X12_wholeParts h).bind (fun a1 => some ((a1 - y0)))) else ((f_X12_leftOf x1 h).bind (fun a1 => some ((a1 - y0))))) else none
noncomputable def f_X12_roomOf (x1 : Int32) (h : am_H) : Option Int32 :=
  if x1 = 0 then (f_X12_roomOf_15 x1 (iI (0)) h) else ((f_X12_rightOf (x1 - (iI (1))) h).bind (fun a1 => f_X12_roomOf_15 x1 a1 h))
theorem c_X12_roomOf_15  {x1 : Int32} {y0 : Int32} {h : am_H} {Q : Option am_v → am_H → Prop} (H : wp (f_X12_roomOf_15 x1 y0 h) (fun a => Q (some (am_i a)) h)) : am_V RX12 cX12_roomOf 4 (some .int) 6 128 0 0 none (am_Tm cX12_roomOf (some .int) Q) 0 0 15 [some (am_r (.inl 0) 0), some (am_i x1), none, none] [am_i y0] h := by
  unfold f_X12_roomOf_15 at H
  refine rs_i2 dX12_roomOf_15 rfl trivial ?_
  refine rl_i1 dX12_roomOf_16 ?_
  refine rl_a0 dX12_roomOf_17 ?_
  refine rg_R (.inl 0) 2 dX12_roomOf_18 fg_X12_20 rfl rfl rfl (ok_M rfl) ?_
  refine ar_iconst (iI (1)) dX12_roomOf_21 rfl ?_
  obtain ⟨b1, H⟩ := wp_g H
  refine ar_iald dX12_roomOf_22 rfl (ok_M rfl) (ib_in b1) ?_
  refine ar_ic_ne 33 dX12_roomOf_23 (by decide) (fun c1 => ?_) (fun c1 => ?_)
  · replace H := wp_f c1 H
    refine rl_a0 dX12_roomOf_33 ?_
    refine rl_i1 dX12_roomOf_34 ?_
    obtain ⟨a1, e1, H⟩ := wp_b H
    refine rc_V1i dX12_roomOf_35 ml_X12_298 mc_X12_leftOf (c_X12_leftOf e1) rfl rfl rfl (ok_M rfl) rfl rfl rfl ?_
    refine rs_i3 dX12_roomOf_38 rfl trivial ?_
    refine rl_i3 dX12_roomOf_39 ?_
    refine rl_i2 dX12_roomOf_40 ?_
    refine ar_isub dX12_roomOf_41 ?_
    replace H := wp_s H
    exact ar_iret dX12_roomOf_42 rfl rfl H
  · replace H := wp_t c1 H
    refine rl_a0 dX12_roomOf_26 ?_
    obtain ⟨a1, e1, H⟩ := wp_b H
    refine rc_V0i dX12_roomOf_27 ml_X12_295 mc_X12_wholeParts (c_X12_wholeParts e1) rfl rfl rfl (ok_M rfl) rfl rfl rfl ?_
    refine ar_goto 38 dX12_roomOf_30 (by decide) ?_
    refine rs_i3 dX12_roomOf_38 rfl trivial ?_
    refine rl_i3 dX12_roomOf_39 ?_
    refine rl_i2 dX12_roomOf_40 ?_
    refine ar_isub dX12_roomOf_41 ?_
    replace H := wp_s H
    exact ar_iret dX12_roomOf_42 rfl rfl H
theorem c_X12_roomOf {x1 : Int32} {h : am_H} {a : Int32} (e : f_X12_roomOf x1 h = some a) : am_Mi yX12_roomOf cX12_roomOf 4 (some .int) 6 128 [am_r (.inl 0) 0, am_i x1] h a h := by
  refine am_M.ofi (A := [some (am_r (.inl 0) 0), some (am_i x1), none, none]) (by decide +kernel) rfl (ble rfl) (fun Q hQ => ?_)
  have H : wp (f_X12_roomOf x1 h) (fun a => Q (some (am_i a)) h) := ⟨a, e, hQ⟩
  unfold f_X12_roomOf at H
  refine rl_i1 dX12_roomOf_0 ?_
  refine ar_if_ne 8 dX12_roomOf_1 (by decide) (fun c1 => ?_) (fun c1 => ?_)
  · replace H := wp_f c1 H
    refine rl_a0 dX12_roomOf_8 ?_
    refine rl_i1 dX12_roomOf_9 ?_
    refine ar_iconst (iI (1)) dX12_roomOf_10 rfl ?_
    refine ar_isub dX12_roomOf_11 ?_
    obtain ⟨a1, e1, H⟩ := wp_b H
    refine rc_V1i dX12_roomOf_12 ml_X12_292 mc_X12_rightOf (c_X12_rightOf e1) rfl rfl rfl (ok_M rfl) rfl rfl rfl ?_
    exact am_V.wk (am_s (am_s (am_n (am_n am_0)))) (c_X12_roomOf_15  H)
  · replace H := wp_t c1 H
    refine ar_iconst (iI (0)) dX12_roomOf_4 rfl ?_
    refine ar_goto 15 dX12_roomOf_5 (by decide) ?_
    exact am_V.wk (am_s (am_s (am_n (am_n am_0)))) (c_X12_roomOf_15  H)
noncomputable def f_X12_isCrowded (x1 : Int32) (h : am_H) : Option Int32 :=
  (f_X12_roomOf x1 h).bind (fun a1 => if ib (iI (4)) 408 then (if ((iI (100)) * (h.1 (.inl 0) 2 ((iI (4))).toNatClampNeg)) ≤ a1 then (some ((iI (0)))) else (some ((iI (1))))) else none)
theorem c_X12_isCrowded {x1 : Int32} {h : am_H} {a : Int32} (e : f_X12_isCrowded x1 h = some a) : am_Mi yX12_isCrowded cX12_isCrowded 2 (some .boolean) 7 151 [am_r (.inl 0) 0, am_i x1] h a h := by
  refine am_M.ofi (A := [some (am_r (.inl 0) 0), some (am_i x1)]) (by decide +kernel) rfl (ble rfl) (fun Q hQ => ?_)
  have H : wp (f_X12_isCrowded x1 h) (fun a => Q (some (am_i a)) h) := ⟨a, e, hQ⟩
  unfold f_X12_isCrowded at H
  refine rl_a0 dX12_isCrowded_0 ?_
  refine rl_i1 dX12_isCrowded_1 ?_
  obtain ⟨a1, e1, H⟩ := wp_b H
  refine rc_V1i dX12_isCrowded_2 ml_X12_301 mc_X12_roomOf (c_X12_roomOf e1) rfl rfl rfl (ok_M rfl) rfl rfl rfl ?_
  refine ar_bipush (iI (100)) dX12_isCrowded_5 rfl ?_
  refine rl_a0 dX12_isCrowded_7 ?_
  refine rg_R (.inl 0) 2 dX12_isCrowded_8 fg_X12_20 rfl rfl rfl (ok_M rfl) ?_
  refine ar_iconst (iI (4)) dX12_isCrowded_11 rfl ?_
  obtain ⟨b1, H⟩ := wp_g H
  refine ar_iald dX12_isCrowded_12 rfl (ok_M rfl) (ib_in b1) ?_
  refine ar_imul dX12_isCrowded_13 ?_
  refine ar_ic_ge 21 dX12_isCrowded_14 (by decide) (fun c1 => ?_) (fun c1 => ?_)
  · replace H := wp_t c1 H
    refine ar_iconst (iI (0)) dX12_isCrowded_21 rfl ?_
    replace H := wp_s H
    exact ar_iret dX12_isCrowded_22 rfl rfl H
  · replace H := wp_f c1 H
    refine ar_iconst (iI (1)) dX12_isCrowded_17 rfl ?_
    refine ar_goto 22 dX12_isCrowded_18 (by decide) ?_
    replace H := wp_s H
    exact ar_iret dX12_isCrowded_22 rfl rfl H
noncomputable def s_X12_crowdedMany  (h : am_H) : am_S Unit → Option (am_S Unit ⊕ Int32) := fun s => match s with
  | (4, [x1, x2], [], [], ()) => if ib (iI (1)) 408 then (if (h.1 (.inl 0) 2 ((iI (1))).toNatClampNeg) < x2 then (some (.inr (x1))) else ((f_X12_isCrowded x2 h).bind (fun a1 => (f_X12_truth a1).bind (fun a2 => some (.inl (4, [(x1 + a2), (x2 + 1)], [], [], ())))))) else none
  | _ => none
noncomputable def f_X12_crowdedMany_4  (x1 : Int32) (x2 : Int32) (h : am_H) : Option Int32 := lp (s_X12_crowdedMany h) (4, [x1, x2], [], [], ())
theorem e_X12_crowdedMany_4  (x1 : Int32) (x2 : Int32) (h : am_H) : f_X12_crowdedMany_4 x1 x2 h = (if ib (iI (1)) 408 then (if (h.1 (.inl 0) 2 ((iI (1))).toNatClampNeg) < x2 then (some (x1)) else ((f_X12_isCrowded x2 h).bind (fun a1 => (f_X12_truth a1).bind (fun a2 => f_X12_crowdedMany_4 (x1 + a2) (x2 + 1) h)))) else none) := by
  show lp _ _ = _
  rw [lp_eq, s_X12_crowdedMany]
  simp only [lpk_i, lpk_b, lpk_l, lpk_n, lpk_j, lpk_r] <;> rfl
noncomputable def f_X12_crowdedMany  (h : am_H) : Option Int32 :=
  f_X12_crowdedMany_4 (iI (0)) (iI (0)) h
theorem c_X12_crowdedMany_L  {h : am_H} {Q : Option am_v → am_H → Prop} : ∀ s, wp (lp (s_X12_crowdedMany h) s) (fun a => Q (some (am_i a)) h) → ((∀ x1 x2, s = (4, [x1, x2], [], [], ()) → am_V RX12 cX12_crowdedMany 3 (some .int) 8 172 0 0 none (am_Tm cX12_crowdedMany (some .int) Q) 0 0 4 [some (am_r (.inl 0) 0), some (am_i x1), some (am_i x2)] [] h)) := by
  refine lp_ind _ _ (fun s H => fun x1 x2 e => ?_)
  · subst e
    rw [s_X12_crowdedMany] at H
    refine rl_i2 dX12_crowdedMany_4 ?_
    refine rl_a0 dX12_crowdedMany_5 ?_
    refine rg_R (.inl 0) 2 dX12_crowdedMany_6 fg_X12_20 rfl rfl rfl (ok_M rfl) ?_
    refine ar_iconst (iI (1)) dX12_crowdedMany_9 rfl ?_
    obtain ⟨b1, H⟩ := wp_g H
    refine ar_iald dX12_crowdedMany_10 rfl (ok_M rfl) (ib_in b1) ?_
    refine ar_ic_gt 31 dX12_crowdedMany_11 (by decide) (fun c1 => ?_) (fun c1 => ?_)
    · replace H := wp_t c1 H
      refine rl_i1 dX12_crowdedMany_31 ?_
      replace H := lp_re H
      exact ar_iret dX12_crowdedMany_32 rfl rfl H
    · replace H := wp_f c1 H
      refine rl_i1 dX12_crowdedMany_14 ?_
      refine rl_a0 dX12_crowdedMany_15 ?_
      refine rl_i2 dX12_crowdedMany_16 ?_
      obtain ⟨a1, e1, H⟩ := wp_b H
      refine rc_V1i dX12_crowdedMany_17 ml_X12_304 mc_X12_isCrowded (c_X12_isCrowded e1) rfl rfl rfl (ok_M rfl) rfl rfl rfl ?_
      obtain ⟨a2, e2, H⟩ := wp_b H
      refine rc_S1i dX12_crowdedMany_20 ml_X12_75 mc_X12_truth (c_X12_truth e2) rfl rfl rfl ?_
      refine ar_iadd dX12_crowdedMany_23 ?_
      refine rs_i1 dX12_crowdedMany_24 rfl trivial ?_
      refine rn_1_2 dX12_crowdedMany_25 rfl trivial ?_
      refine ar_goto 4 dX12_crowdedMany_28 (by decide) ?_
      exact am_V.wk (am_s (am_s (am_s am_0))) ((lp_in H) _ _ rfl)
theorem c_X12_crowdedMany  {h : am_H} {a : Int32} (e : f_X12_crowdedMany h = some a) : am_Mi yX12_crowdedMany cX12_crowdedMany 3 (some .int) 8 172 [am_r (.inl 0) 0] h a h := by
  refine am_M.ofi (A := [some (am_r (.inl 0) 0), none, none]) (by decide +kernel) rfl (ble rfl) (fun Q hQ => ?_)
  have H : wp (f_X12_crowdedMany h) (fun a => Q (some (am_i a)) h) := ⟨a, e, hQ⟩
  unfold f_X12_crowdedMany at H
  refine ar_iconst (iI (0)) dX12_crowdedMany_0 rfl ?_
  refine rs_i1 dX12_crowdedMany_1 rfl trivial ?_
  refine ar_iconst (iI (0)) dX12_crowdedMany_2 rfl ?_
  refine rs_i2 dX12_crowdedMany_3 rfl trivial ?_
  exact am_V.wk (am_s (am_s (am_s am_0))) ((c_X12_crowdedMany_L  _ H) _ _ rfl)
noncomputable def s_X12_tightestNow  (h : am_H) : am_S Unit → Option (am_S Unit ⊕ Int32) := fun s => match s with
  | (4, [x1, x2], [], [], ()) => if ib (iI (1)) 408 then (if (h.1 (.inl 0) 2 ((iI (1))).toNatClampNeg) < x2 then (some (.inr (x1))) else ((f_X12_roomOf x2 h).bind (fun a1 => (f_X12_roomOf x1 h).bind (fun a2 => if a2 ≤ a1 then (some (.inl (4, [x1, (x2 + 1)], [], [], ()))) else (some (.inl (4, [x2, (x2 + 1)], [], [], ()))))))) else none
  | _ => none
noncomputable def f_X12_tightestNow_4  (x1 : Int32) (x2 : Int32) (h : am_H) : Option Int32 := lp (s_X12_tightestNow h) (4, [x1, x2], [], [], ())
theorem e_X12_tightestNow_4  (x1 : Int32) (x2 : Int32) (h : am_H) : f_X12_tightestNow_4 x1 x2 h = (if ib (iI (1)) 408 then (if (h.1 (.inl 0) 2 ((iI (1))).toNatClampNeg) < x2 then (some (x1)) else ((f_X12_roomOf x2 h).bind (fun a1 => (f_X12_roomOf x1 h).bind (fun a2 => if a2 ≤ a1 then (f_X12_tightestNow_4 x1 (x2 + 1) h) else (f_X12_tightestNow_4 x2 (x2 + 1) h))))) else none) := by
  show lp _ _ = _
  rw [lp_eq, s_X12_tightestNow]
  simp only [lpk_i, lpk_b, lpk_l, lpk_n, lpk_j, lpk_r] <;> rfl
noncomputable def f_X12_tightestNow  (h : am_H) : Option Int32 :=
  f_X12_tightestNow_4 (iI (0)) (iI (1)) h
theorem c_X12_tightestNow_L  {h : am_H} {Q : Option am_v → am_H → Prop} : ∀ s, wp (lp (s_X12_tightestNow h) s) (fun a => Q (some (am_i a)) h) → ((∀ x1 x2, s = (4, [x1, x2], [], [], ()) → am_V RX12 cX12_tightestNow 3 (some .int) 7 151 0 0 none (am_Tm cX12_tightestNow (some .int) Q) 0 0 4 [some (am_r (.inl 0) 0), some (am_i x1), some (am_i x2)] [] h)) := by
  refine lp_ind _ _ (fun s H => fun x1 x2 e => ?_)
  · subst e
    rw [s_X12_tightestNow] at H
    refine rl_i2 dX12_tightestNow_4 ?_
    refine rl_a0 dX12_tightestNow_5 ?_
    refine rg_R (.inl 0) 2 dX12_tightestNow_6 fg_X12_20 rfl rfl rfl (ok_M rfl) ?_
    refine ar_iconst (iI (1)) dX12_tightestNow_9 rfl ?_
    obtain ⟨b1, H⟩ := wp_g H
    refine ar_iald dX12_tightestNow_10 rfl (ok_M rfl) (ib_in b1) ?_
    refine ar_ic_gt 35 dX12_tightestNow_11 (by decide) (fun c1 => ?_) (fun c1 => ?_)
    · replace H := wp_t c1 H
      refine rl_i1 dX12_tightestNow_35 ?_
      replace H := lp_re H
      exact ar_iret dX12_tightestNow_36 rfl rfl H
    · replace H := wp_f c1 H
      refine rl_a0 dX12_tightestNow_14 ?_
      refine rl_i2 dX12_tightestNow_15 ?_
      obtain ⟨a1, e1, H⟩ := wp_b H
      refine rc_V1i dX12_tightestNow_16 ml_X12_301 mc_X12_roomOf (c_X12_roomOf e1) rfl rfl rfl (ok_M rfl) rfl rfl rfl ?_
      refine rl_a0 dX12_tightestNow_19 ?_
      refine rl_i1 dX12_tightestNow_20 ?_
      obtain ⟨a2, e2, H⟩ := wp_b H
      refine rc_V1i dX12_tightestNow_21 ml_X12_301 mc_X12_roomOf (c_X12_roomOf e2) rfl rfl rfl (ok_M rfl) rfl rfl rfl ?_
      refine ar_ic_ge 29 dX12_tightestNow_24 (by decide) (fun c2 => ?_) (fun c2 => ?_)
      · replace H := wp_t c2 H
        refine rn_1_2 dX12_tightestNow_29 rfl trivial ?_
        refine ar_goto 4 dX12_tightestNow_32 (by decide) ?_
        exact am_V.wk (am_s (am_s (am_s am_0))) ((lp_in H) _ _ rfl)
      · replace H := wp_f c2 H
        refine rl_i2 dX12_tightestNow_27 ?_
        refine rs_i1 dX12_tightestNow_28 rfl trivial ?_
        refine rn_1_2 dX12_tightestNow_29 rfl trivial ?_
        refine ar_goto 4 dX12_tightestNow_32 (by decide) ?_
        exact am_V.wk (am_s (am_s (am_s am_0))) ((lp_in H) _ _ rfl)
theorem c_X12_tightestNow  {h : am_H} {a : Int32} (e : f_X12_tightestNow h = some a) : am_Mi yX12_tightestNow cX12_tightestNow 3 (some .int) 7 151 [am_r (.inl 0) 0] h a h := by
  refine am_M.ofi (A := [some (am_r (.inl 0) 0), none, none]) (by decide +kernel) rfl (ble rfl) (fun Q hQ => ?_)
  have H : wp (f_X12_tightestNow h) (fun a => Q (some (am_i a)) h) := ⟨a, e, hQ⟩
  unfold f_X12_tightestNow at H
  refine ar_iconst (iI (0)) dX12_tightestNow_0 rfl ?_
  refine rs_i1 dX12_tightestNow_1 rfl trivial ?_
  refine ar_iconst (iI (1)) dX12_tightestNow_2 rfl ?_
  refine rs_i2 dX12_tightestNow_3 rfl trivial ?_
  exact am_V.wk (am_s (am_s (am_s am_0))) ((c_X12_tightestNow_L  _ H) _ _ rfl)
noncomputable def s_X12_largestEmpty  (h : am_H) : am_S Unit → Option (am_S Unit ⊕ Int32) := fun s => match s with
  | (4, [x1, x2, x3], [], [], ()) => if ib (iI (1)) 408 then (if (h.1 (.inl 0) 2 ((iI (1))).toNatClampNeg) < x3 then (some (.inr (x2))) else ((f_X12_has x1 x3).bind (fun a1 => if a1 = 0 then (if x2 = (iI (-1)) then (some (.inl (4, [x1, x3, (x3 + 1)], [], [], ()))) else (if ib x3 21 then (if ib x2 21 then (if (h.1 (.inl 0) 12 x3.toNatClampNeg) ≤ (h.1 (.inl 0) 12 x2.toNatClampNeg) then (some (.inl (4, [x1, x2, (x3 + 1)], [], [], ()))) else (some (.inl (4, [x1, x3, (x3 + 1)], [], [], ())))) else none) else none)) else (some (.inl (4, [x1, x2, (x3 + 1)], [], [], ())))))) else none
  | _ => none
noncomputable def f_X12_largestEmpty_4  (x1 : Int32) (x2 : Int32) (x3 : Int32) (h : am_H) : Option Int32 := lp (s_X12_largestEmpty h) (4, [x1, x2, x3], [], [], ())
theorem e_X12_largestEmpty_4  (x1 : Int32) (x2 : Int32) (x3 : Int32) (h : am_H) : f_X12_largestEmpty_4 x1 x2 x3 h = (if ib (iI (1)) 408 then (if (h.1 (.inl 0) 2 ((iI (1))).toNatClampNeg) < x3 then (some (x2)) else ((f_X12_has x1 x3).bind (fun a1 => if a1 = 0 then (if x2 = (iI (-1)) then (f_X12_largestEmpty_4 x1 x3 (x3 + 1) h) else (if ib x3 21 then (if ib x2 21 then (if (h.1 (.inl 0) 12 x3.toNatClampNeg) ≤ (h.1 (.inl 0) 12 x2.toNatClampNeg) then (f_X12_largestEmpty_4 x1 x2 (x3 + 1) h) else (f_X12_largestEmpty_4 x1 x3 (x3 + 1) h)) else none) else none)) else (f_X12_largestEmpty_4 x1 x2 (x3 + 1) h)))) else none) := by
  show lp _ _ = _
  rw [lp_eq, s_X12_largestEmpty]
  simp only [lpk_i, lpk_b, lpk_l, lpk_n, lpk_j, lpk_r] <;> rfl
noncomputable def f_X12_largestEmpty (x1 : Int32) (h : am_H) : Option Int32 :=
  f_X12_largestEmpty_4 x1 (iI (-1)) (iI (0)) h
theorem c_X12_largestEmpty_L  {h : am_H} {Q : Option am_v → am_H → Prop} : ∀ s, wp (lp (s_X12_largestEmpty h) s) (fun a => Q (some (am_i a)) h) → ((∀ x1 x2 x3, s = (4, [x1, x2, x3], [], [], ()) → am_V RX12 cX12_largestEmpty 4 (some .int) 1 21 0 0 none (am_Tm cX12_largestEmpty (some .int) Q) 0 0 4 [some (am_r (.inl 0) 0), some (am_i x1), some (am_i x2), some (am_i x3)] [] h)) := by
  refine lp_ind _ _ (fun s H => fun x1 x2 x3 e => ?_)
  · subst e
    rw [s_X12_largestEmpty] at H
    refine rl_i3 dX12_largestEmpty_4 ?_
    refine rl_a0 dX12_largestEmpty_5 ?_
    refine rg_R (.inl 0) 2 dX12_largestEmpty_6 fg_X12_20 rfl rfl rfl (ok_M rfl) ?_
    refine ar_iconst (iI (1)) dX12_largestEmpty_9 rfl ?_
    obtain ⟨b1, H⟩ := wp_g H
    refine ar_iald dX12_largestEmpty_10 rfl (ok_M rfl) (ib_in b1) ?_
    refine ar_ic_gt 50 dX12_largestEmpty_11 (by decide) (fun c1 => ?_) (fun c1 => ?_)
    · replace H := wp_t c1 H
      refine rl_i2 dX12_largestEmpty_50 ?_
      replace H := lp_re H
      exact ar_iret dX12_largestEmpty_51 rfl rfl H
    · replace H := wp_f c1 H
      refine rl_i1 dX12_largestEmpty_14 ?_
      refine rl_i3 dX12_largestEmpty_15 ?_
      obtain ⟨a1, e1, H⟩ := wp_b H
      refine rc_S2i dX12_largestEmpty_16 ml_X12_178 mc_X12_has (c_X12_has e1) rfl rfl rfl ?_
      refine ar_if_ne 44 dX12_largestEmpty_19 (by decide) (fun c2 => ?_) (fun c2 => ?_)
      · replace H := wp_f c2 H
        refine rn_1_3 dX12_largestEmpty_44 rfl trivial ?_
        refine ar_goto 4 dX12_largestEmpty_47 (by decide) ?_
        exact am_V.wk (am_s (am_s (am_s (am_s am_0)))) ((lp_in H) _ _ _ rfl)
      · replace H := wp_t c2 H
        refine rl_i2 dX12_largestEmpty_22 ?_
        refine ar_iconst (iI (-1)) dX12_largestEmpty_23 rfl ?_
        refine ar_ic_eq 42 dX12_largestEmpty_24 (by decide) (fun c3 => ?_) (fun c3 => ?_)
        · replace H := wp_t c3 H
          refine rl_i3 dX12_largestEmpty_42 ?_
          refine rs_i2 dX12_largestEmpty_43 rfl trivial ?_
          refine rn_1_3 dX12_largestEmpty_44 rfl trivial ?_
          refine ar_goto 4 dX12_largestEmpty_47 (by decide) ?_
          exact am_V.wk (am_s (am_s (am_s (am_s am_0)))) ((lp_in H) _ _ _ rfl)
        · replace H := wp_f c3 H
          refine rl_a0 dX12_largestEmpty_27 ?_
          refine rg_R (.inl 0) 12 dX12_largestEmpty_28 fg_X12_51 rfl rfl rfl (ok_M rfl) ?_
          refine rl_i3 dX12_largestEmpty_31 ?_
          obtain ⟨b2, H⟩ := wp_g H
          refine ar_iald dX12_largestEmpty_32 rfl (ok_M rfl) (ib_in b2) ?_
          refine rl_a0 dX12_largestEmpty_33 ?_
          refine rg_R (.inl 0) 12 dX12_largestEmpty_34 fg_X12_51 rfl rfl rfl (ok_M rfl) ?_
          refine rl_i2 dX12_largestEmpty_37 ?_
          obtain ⟨b3, H⟩ := wp_g H
          refine ar_iald dX12_largestEmpty_38 rfl (ok_M rfl) (ib_in b3) ?_
          refine ar_ic_le 44 dX12_largestEmpty_39 (by decide) (fun c4 => ?_) (fun c4 => ?_)
          · replace H := wp_t c4 H
            refine rn_1_3 dX12_largestEmpty_44 rfl trivial ?_
            refine ar_goto 4 dX12_largestEmpty_47 (by decide) ?_
            exact am_V.wk (am_s (am_s (am_s (am_s am_0)))) ((lp_in H) _ _ _ rfl)
          · replace H := wp_f c4 H
            refine rl_i3 dX12_largestEmpty_42 ?_
            refine rs_i2 dX12_largestEmpty_43 rfl trivial ?_
            refine rn_1_3 dX12_largestEmpty_44 rfl trivial ?_
            refine ar_goto 4 dX12_largestEmpty_47 (by decide) ?_
            exact am_V.wk (am_s (am_s (am_s (am_s am_0)))) ((lp_in H) _ _ _ rfl)
theorem c_X12_largestEmpty {x1 : Int32} {h : am_H} {a : Int32} (e : f_X12_largestEmpty x1 h = some a) : am_Mi yX12_largestEmpty cX12_largestEmpty 4 (some .int) 1 21 [am_r (.inl 0) 0, am_i x1] h a h := by
  refine am_M.ofi (A := [some (am_r (.inl 0) 0), some (am_i x1), none, none]) (by decide +kernel) rfl (ble rfl) (fun Q hQ => ?_)
  have H : wp (f_X12_largestEmpty x1 h) (fun a => Q (some (am_i a)) h) := ⟨a, e, hQ⟩
  unfold f_X12_largestEmpty at H
  refine ar_iconst (iI (-1)) dX12_largestEmpty_0 rfl ?_
  refine rs_i2 dX12_largestEmpty_1 rfl trivial ?_
  refine ar_iconst (iI (0)) dX12_largestEmpty_2 rfl ?_
  refine rs_i3 dX12_largestEmpty_3 rfl trivial ?_
  exact am_V.wk (am_s (am_s (am_s (am_s am_0)))) ((c_X12_largestEmpty_L  _ H) _ _ _ rfl)
noncomputable def s_X12_kindFor  (h : am_H) : am_S Unit → Option (am_S Unit ⊕ Int32) := fun s => match s with
  | (4, [x1, x2, x3], [], [], ()) => if ib (iI (2)) 408 then (if (h.1 (.inl 0) 2 ((iI (2))).toNatClampNeg) ≤ x3 then (some (.inr (x2))) else (if ib x3 6 then (if (h.1 (.inl 0) 11 x3.toNatClampNeg) = 0 then (some (.inl (4, [x1, x2, (x3 + 1)], [], [], ()))) else ((f_X12_ofKind x3 (iI (0)) h).bind (fun a1 => if ib (iI (4)) 408 then (if (((iI (1000)) * a1) + ((iI (200)) * (h.1 (.inl 0) 2 ((iI (4))).toNatClampNeg))) ≤ x1 then (if x2 = (iI (-1)) then (some (.inl (4, [x1, x3, (x3 + 1)], [], [], ()))) else ((f_X12_ofKind x3 (iI (1)) h).bind (fun a2 => (f_X12_ofKind x2 (iI (1)) h).bind (fun a3 => if a2 ≤ a3 then (some (.inl (4, [x1, x2, (x3 + 1)], [], [], ()))) else (some (.inl (4, [x1, x3, (x3 + 1)], [], [], ()))))))) else (some (.inl (4, [x1, x2, (x3 + 1)], [], [], ())))) else none))) else none)) else none
  | _ => none
noncomputable def f_X12_kindFor_4  (x1 : Int32) (x2 : Int32) (x3 : Int32) (h : am_H) : Option Int32 := lp (s_X12_kindFor h) (4, [x1, x2, x3], [], [], ())
theorem e_X12_kindFor_4  (x1 : Int32) (x2 : Int32) (x3 : Int32) (h : am_H) : f_X12_kindFor_4 x1 x2 x3 h = (if ib (iI (2)) 408 then (if (h.1 (.inl 0) 2 ((iI (2))).toNatClampNeg) ≤ x3 then (some (x2)) else (if ib x3 6 then (if (h.1 (.inl 0) 11 x3.toNatClampNeg) = 0 then (f_X12_kindFor_4 x1 x2 (x3 + 1) h) else ((f_X12_ofKind x3 (iI (0)) h).bind (fun a1 => if ib (iI (4)) 408 then (if (((iI (1000)) * a1) + ((iI (200)) * (h.1 (.inl 0) 2 ((iI (4))).toNatClampNeg))) ≤ x1 then (if x2 = (iI (-1)) then (f_X12_kindFor_4 x1 x3 (x3 + 1) h) else ((f_X12_ofKind x3 (iI (1)) h).bind (fun a2 => (f_X12_ofKind x2 (iI (1)) h).bind (fun a3 => if a2 ≤ a3 then (f_X12_kindFor_4 x1 x2 (x3 + 1) h) else (f_X12_kindFor_4 x1 x3 (x3 + 1) h))))) else (f_X12_kindFor_4 x1 x2 (x3 + 1) h)) else none))) else none)) else none) := by
  show lp _ _ = _
  rw [lp_eq, s_X12_kindFor]
  simp only [lpk_i, lpk_b, lpk_l, lpk_n, lpk_j, lpk_r] <;> rfl
noncomputable def f_X12_kindFor (x1 : Int32) (h : am_H) : Option Int32 :=
  f_X12_kindFor_4 x1 (iI (-1)) (iI (0)) h
theorem c_X12_kindFor_L  {h : am_H} {Q : Option am_v → am_H → Prop} : ∀ s, wp (lp (s_X12_kindFor h) s) (fun a => Q (some (am_i a)) h) → ((∀ x1 x2 x3, s = (4, [x1, x2, x3], [], [], ()) → am_V RX12 cX12_kindFor 4 (some .int) 1 22 0 0 none (am_Tm cX12_kindFor (some .int) Q) 0 0 4 [some (am_r (.inl 0) 0), some (am_i x1), some (am_i x2), some (am_i x3)] [] h)) := by
  refine lp_ind _ _ (fun s H => fun x1 x2 x3 e => ?_)
  · subst e
    rw [s_X12_kindFor] at H
    refine rl_i3 dX12_kindFor_4 ?_
    refine rl_a0 dX12_kindFor_5 ?_
    refine rg_R (.inl 0) 2 dX12_kindFor_6 fg_X12_20 rfl rfl rfl (ok_M rfl) ?_
    refine ar_iconst (iI (2)) dX12_kindFor_9 rfl ?_
    obtain ⟨b1, H⟩ := wp_g H
    refine ar_iald dX12_kindFor_10 rfl (ok_M rfl) (ib_in b1) ?_
    refine ar_ic_ge 79 dX12_kindFor_11 (by decide) (fun c1 => ?_) (fun c1 => ?_)
    · replace H := wp_t c1 H
      refine rl_i2 dX12_kindFor_79 ?_
      replace H := lp_re H
      exact ar_iret dX12_kindFor_80 rfl rfl H
    · replace H := wp_f c1 H
      refine rl_a0 dX12_kindFor_14 ?_
      refine rg_R (.inl 0) 11 dX12_kindFor_15 fg_X12_48 rfl rfl rfl (ok_M rfl) ?_
      refine rl_i3 dX12_kindFor_18 ?_
      obtain ⟨b2, H⟩ := wp_g H
      refine ar_iald dX12_kindFor_19 rfl (ok_M rfl) (ib_in b2) ?_
      refine ar_if_eq 73 dX12_kindFor_20 (by decide) (fun c2 => ?_) (fun c2 => ?_)
      · replace H := wp_t c2 H
        refine rn_1_3 dX12_kindFor_73 rfl trivial ?_
        refine ar_goto 4 dX12_kindFor_76 (by decide) ?_
        exact am_V.wk (am_s (am_s (am_s (am_s am_0)))) ((lp_in H) _ _ _ rfl)
      · replace H := wp_f c2 H
        refine ar_sipush (iI (1000)) dX12_kindFor_23 rfl ?_
        refine rl_a0 dX12_kindFor_26 ?_
        refine rl_i3 dX12_kindFor_27 ?_
        refine ar_iconst (iI (0)) dX12_kindFor_28 rfl ?_
        obtain ⟨a1, e1, H⟩ := wp_b H
        refine rc_V2i dX12_kindFor_29 ml_X12_307 mc_X12_ofKind (c_X12_ofKind e1) rfl rfl rfl (ok_M rfl) rfl rfl rfl ?_
        refine ar_imul dX12_kindFor_32 ?_
        refine ar_sipush (iI (200)) dX12_kindFor_33 rfl ?_
        refine rl_a0 dX12_kindFor_36 ?_
        refine rg_R (.inl 0) 2 dX12_kindFor_37 fg_X12_20 rfl rfl rfl (ok_M rfl) ?_
        refine ar_iconst (iI (4)) dX12_kindFor_40 rfl ?_
        obtain ⟨b3, H⟩ := wp_g H
        refine ar_iald dX12_kindFor_41 rfl (ok_M rfl) (ib_in b3) ?_
        refine ar_imul dX12_kindFor_42 ?_
        refine ar_iadd dX12_kindFor_43 ?_
        refine rl_i1 dX12_kindFor_44 ?_
        refine ar_ic_le 51 dX12_kindFor_45 (by decide) (fun c3 => ?_) (fun c3 => ?_)
        · replace H := wp_t c3 H
          refine rl_i2 dX12_kindFor_51 ?_
          refine ar_iconst (iI (-1)) dX12_kindFor_52 rfl ?_
          refine ar_ic_eq 71 dX12_kindFor_53 (by decide) (fun c4 => ?_) (fun c4 => ?_)
          · replace H := wp_t c4 H
            refine rl_i3 dX12_kindFor_71 ?_
            refine rs_i2 dX12_kindFor_72 rfl trivial ?_
            refine rn_1_3 dX12_kindFor_73 rfl trivial ?_
            refine ar_goto 4 dX12_kindFor_76 (by decide) ?_
            exact am_V.wk (am_s (am_s (am_s (am_s am_0)))) ((lp_in H) _ _ _ rfl)
          · replace H := wp_f c4 H
            refine rl_a0 dX12_kindFor_56 ?_
            refine rl_i3 dX12_kindFor_57 ?_
            refine ar_iconst (iI (1)) dX12_kindFor_58 rfl ?_
            obtain ⟨a2, e2, H⟩ := wp_b H
            refine rc_V2i dX12_kindFor_59 ml_X12_307 mc_X12_ofKind (c_X12_ofKind e2) rfl rfl rfl (ok_M rfl) rfl rfl rfl ?_
            refine rl_a0 dX12_kindFor_62 ?_
            refine rl_i2 dX12_kindFor_63 ?_
            refine ar_iconst (iI (1)) dX12_kindFor_64 rfl ?_
            obtain ⟨a3, e3, H⟩ := wp_b H
            refine rc_V2i dX12_kindFor_65 ml_X12_307 mc_X12_ofKind (c_X12_ofKind e3) rfl rfl rfl (ok_M rfl) rfl rfl rfl ?_
            refine ar_ic_le 73 dX12_kindFor_68 (by decide) (fun c5 => ?_) (fun c5 => ?_)
            · replace H := wp_t c5 H
              refine rn_1_3 dX12_kindFor_73 rfl trivial ?_
              refine ar_goto 4 dX12_kindFor_76 (by decide) ?_
              exact am_V.wk (am_s (am_s (am_s (am_s am_0)))) ((lp_in H) _ _ _ rfl)
            · replace H := wp_f c5 H
              refine rl_i3 dX12_kindFor_71 ?_
              refine rs_i2 dX12_kindFor_72 rfl trivial ?_
              refine rn_1_3 dX12_kindFor_73 rfl trivial ?_
              refine ar_goto 4 dX12_kindFor_76 (by decide) ?_
              exact am_V.wk (am_s (am_s (am_s (am_s am_0)))) ((lp_in H) _ _ _ rfl)
        · replace H := wp_f c3 H
          refine ar_goto 73 dX12_kindFor_48 (by decide) ?_
          refine rn_1_3 dX12_kindFor_73 rfl trivial ?_
          refine ar_goto 4 dX12_kindFor_76 (by decide) ?_
          exact am_V.wk (am_s (am_s (am_s (am_s am_0)))) ((lp_in H) _ _ _ rfl)
theorem c_X12_kindFor {x1 : Int32} {h : am_H} {a : Int32} (e : f_X12_kindFor x1 h = some a) : am_Mi yX12_kindFor cX12_kindFor 4 (some .int) 1 22 [am_r (.inl 0) 0, am_i x1] h a h := by
  refine am_M.ofi (A := [some (am_r (.inl 0) 0), some (am_i x1), none, none]) (by decide +kernel) rfl (ble rfl) (fun Q hQ => ?_)
  have H : wp (f_X12_kindFor x1 h) (fun a => Q (some (am_i a)) h) := ⟨a, e, hQ⟩
  unfold f_X12_kindFor at H
  refine ar_iconst (iI (-1)) dX12_kindFor_0 rfl ?_
  refine rs_i2 dX12_kindFor_1 rfl trivial ?_
  refine ar_iconst (iI (0)) dX12_kindFor_2 rfl ?_
  refine rs_i3 dX12_kindFor_3 rfl trivial ?_
  exact am_V.wk (am_s (am_s (am_s (am_s am_0)))) ((c_X12_kindFor_L  _ H) _ _ _ rfl)
noncomputable def s_X12_laysFlourishes  : am_S am_H → Option (am_S am_H ⊕ am_H) := fun s => match s with
  | (2, [x1], [], [], h) => if ib (iI (2)) 408 then (if (h.1 (.inl 0) 2 ((iI (2))).toNatClampNeg) ≤ x1 then (some (.inl (32, [(iI (0))], [], [], h))) else ((f_X12_ofKind x1 (iI (2)) h).bind (fun a1 => if ib x1 6 then (am_lt (am_u h (.inl 0) 11 x1.toNatClampNeg a1) (fun h1 => some (.inl (2, [(x1 + 1)], [], [], h1)))) else none))) else none
  | (32, [x1], [], [], h) => if ib (iI (1)) 408 then (if (h.1 (.inl 0) 2 ((iI (1))).toNatClampNeg) < x1 then (some (.inl (63, [(iI (0)), (iI (0))], [], [], h))) else ((f_X12_roomOf x1 h).bind (fun a1 => if ib x1 21 then (am_lt (am_u h (.inl 0) 12 x1.toNatClampNeg a1) (fun h1 => some (.inl (32, [(x1 + 1)], [], [], h1)))) else none))) else none
  | (63, [x1, x2], [], [], h) => if ib (iI (1)) 408 then (if (h.1 (.inl 0) 2 ((iI (1))).toNatClampNeg) < x2 then (some (.inr (h))) else ((f_X12_largestEmpty x1 h).bind (fun a1 => if ib a1 21 then ((f_X12_kindFor (h.1 (.inl 0) 12 a1.toNatClampNeg) h).bind (fun a2 => if ib a1 21 then (am_lt (am_u h (.inl 0) 10 a1.toNatClampNeg a2) (fun h1 => if a2 = (iI (-1)) then (some (.inl (63, [(x1 ||| ((iI (1)) <<< (a1 &&& 31))), (x2 + 1)], [], [], h1))) else (if ib a2 6 then (if ib a2 6 then (am_lt (am_u h1 (.inl 0) 11 a2.toNatClampNeg ((h1.1 (.inl 0) 11 a2.toNatClampNeg) - (iI (1)))) (fun h2 => some (.inl (63, [(x1 ||| ((iI (1)) <<< (a1 &&& 31))), (x2 + 1)], [], [], h2)))) else none) else none))) else none)) else none))) else none
  | _ => none
noncomputable def f_X12_laysFlourishes_2  (x1 : Int32) (h : am_H) : Option am_H := lp (s_X12_laysFlourishes) (2, [x1], [], [], h)
noncomputable def f_X12_laysFlourishes_32  (x1 : Int32) (h : am_H) : Option am_H := lp (s_X12_laysFlourishes) (32, [x1], [], [], h)
noncomputable def f_X12_laysFlourishes_63  (x1 : Int32) (x2 : Int32) (h : am_H) : Option am_H := lp (s_X12_laysFlourishes) (63, [x1, x2], [], [], h)
theorem e_X12_laysFlourishes_2  (x1 : Int32) (h : am_H) : f_X12_laysFlourishes_2 x1 h = (if ib (iI (2)) 408 then (if (h.1 (.inl 0) 2 ((iI (2))).toNatClampNeg) ≤ x1 then (f_X12_laysFlourishes_32 (iI (0)) h) else ((f_X12_ofKind x1 (iI (2)) h).bind (fun a1 => if ib x1 6 then (am_lt (am_u h (.inl 0) 11 x1.toNatClampNeg a1) (fun h1 => f_X12_laysFlourishes_2 (x1 + 1) h1)) else none))) else none) := by
  show lp _ _ = _
  rw [lp_eq, s_X12_laysFlourishes]
  simp only [lpk_i, lpk_b, lpk_l, lpk_n, lpk_j, lpk_r] <;> rfl
theorem e_X12_laysFlourishes_32  (x1 : Int32) (h : am_H) : f_X12_laysFlourishes_32 x1 h = (if ib (iI (1)) 408 then (if (h.1 (.inl 0) 2 ((iI (1))).toNatClampNeg) < x1 then (f_X12_laysFlourishes_63 (iI (0)) (iI (0)) h) else ((f_X12_roomOf x1 h).bind (fun a1 => if ib x1 21 then (am_lt (am_u h (.inl 0) 12 x1.toNatClampNeg a1) (fun h1 => f_X12_laysFlourishes_32 (x1 + 1) h1)) else none))) else none) := by
  show lp _ _ = _
  rw [lp_eq, s_X12_laysFlourishes]
  simp only [lpk_i, lpk_b, lpk_l, lpk_n, lpk_j, lpk_r] <;> rfl
theorem e_X12_laysFlourishes_63  (x1 : Int32) (x2 : Int32) (h : am_H) : f_X12_laysFlourishes_63 x1 x2 h = (if ib (iI (1)) 408 then (if (h.1 (.inl 0) 2 ((iI (1))).toNatClampNeg) < x2 then (some (h)) else ((f_X12_largestEmpty x1 h).bind (fun a1 => if ib a1 21 then ((f_X12_kindFor (h.1 (.inl 0) 12 a1.toNatClampNeg) h).bind (fun a2 => if ib a1 21 then (am_lt (am_u h (.inl 0) 10 a1.toNatClampNeg a2) (fun h1 => if a2 = (iI (-1)) then (f_X12_laysFlourishes_63 (x1 ||| ((iI (1)) <<< (a1 &&& 31))) (x2 + 1) h1) else (if ib a2 6 then (if ib a2 6 then (am_lt (am_u h1 (.inl 0) 11 a2.toNatClampNeg ((h1.1 (.inl 0) 11 a2.toNatClampNeg) - (iI (1)))) (fun h2 => f_X12_laysFlourishes_63 (x1 ||| ((iI (1)) <<< (a1 &&& 31))) (x2 + 1) h2)) else none) else none))) else none)) else none))) else none) := by
  show lp _ _ = _
  rw [lp_eq, s_X12_laysFlourishes]
  simp only [lpk_i, lpk_b, lpk_l, lpk_n, lpk_j, lpk_r] <;> rfl
noncomputable def f_X12_laysFlourishes  (h : am_H) : Option am_H :=
  f_X12_laysFlourishes_2 (iI (0)) h
theorem c_X12_laysFlourishes_L  {Q : Option am_v → am_H → Prop} : ∀ s, wp (lp (s_X12_laysFlourishes) s) (fun a => Q none a) → ((∀ x1 h, s = (2, [x1], [], [], h) → am_V RX12 cX12_laysFlourishes 5 (none) 7 151 0 0 none (am_Tm cX12_laysFlourishes (none) Q) 0 0 2 [some (am_r (.inl 0) 0), some (am_i x1), none, none, none] [] h) ∧ (∀ x1 h, s = (32, [x1], [], [], h) → am_V RX12 cX12_laysFlourishes 5 (none) 7 151 0 0 none (am_Tm cX12_laysFlourishes (none) Q) 0 0 32 [some (am_r (.inl 0) 0), some (am_i x1), none, none, none] [] h) ∧ (∀ x1 x2 h, s = (63, [x1, x2], [], [], h) → am_V RX12 cX12_laysFlourishes 5 (none) 7 151 0 0 none (am_Tm cX12_laysFlourishes (none) Q) 0 0 63 [some (am_r (.inl 0) 0), some (am_i x1), some (am_i x2), none, none] [] h)) := by
  refine lp_ind _ _ (fun s H => ⟨fun x1 h e => ?_, fun x1 h e => ?_, fun x1 x2 h e => ?_⟩)
  · subst e
    rw [s_X12_laysFlourishes] at H
    refine rl_i1 dX12_laysFlourishes_2 ?_
    refine rl_a0 dX12_laysFlourishes_3 ?_
    refine rg_R (.inl 0) 2 dX12_laysFlourishes_4 fg_X12_20 rfl rfl rfl (ok_M rfl) ?_
    refine ar_iconst (iI (2)) dX12_laysFlourishes_7 rfl ?_
    obtain ⟨b1, H⟩ := wp_g H
    refine ar_iald dX12_laysFlourishes_8 rfl (ok_M rfl) (ib_in b1) ?_
    refine ar_ic_ge 30 dX12_laysFlourishes_9 (by decide) (fun c1 => ?_) (fun c1 => ?_)
    · replace H := wp_t c1 H
      refine ar_iconst (iI (0)) dX12_laysFlourishes_30 rfl ?_
      refine rs_i1 dX12_laysFlourishes_31 rfl trivial ?_
      exact am_V.wk (am_s (am_s (am_n (am_n (am_n am_0))))) ((lp_in H).2.1 _ _ rfl)
    · replace H := wp_f c1 H
      refine rl_a0 dX12_laysFlourishes_12 ?_
      refine rg_R (.inl 0) 11 dX12_laysFlourishes_13 fg_X12_48 rfl rfl rfl (ok_M rfl) ?_
      refine rl_i1 dX12_laysFlourishes_16 ?_
      refine rl_a0 dX12_laysFlourishes_17 ?_
      refine rl_i1 dX12_laysFlourishes_18 ?_
      refine ar_iconst (iI (2)) dX12_laysFlourishes_19 rfl ?_
      obtain ⟨a1, e1, H⟩ := wp_b H
      refine rc_V2i dX12_laysFlourishes_20 ml_X12_307 mc_X12_ofKind (c_X12_ofKind e1) rfl rfl rfl (ok_M rfl) rfl rfl rfl ?_
      obtain ⟨b2, H⟩ := wp_g H
      refine ar_iast dX12_laysFlourishes_23 rfl (ok_M rfl) (ib_in b2) ?_
      replace H := wp_l H
      generalize am_u h (.inl 0) 11 x1.toNatClampNeg a1 = h1 at H ⊢
      refine rn_1_1 dX12_laysFlourishes_24 rfl trivial ?_
      refine ar_goto 2 dX12_laysFlourishes_27 (by decide) ?_
      exact am_V.wk (am_s (am_s (am_n (am_n (am_n am_0))))) ((lp_in H).1 _ _ rfl)
  · subst e
    rw [s_X12_laysFlourishes] at H
    refine rl_i1 dX12_laysFlourishes_32 ?_
    refine rl_a0 dX12_laysFlourishes_33 ?_
    refine rg_R (.inl 0) 2 dX12_laysFlourishes_34 fg_X12_20 rfl rfl rfl (ok_M rfl) ?_
    refine ar_iconst (iI (1)) dX12_laysFlourishes_37 rfl ?_
    obtain ⟨b1, H⟩ := wp_g H
    refine ar_iald dX12_laysFlourishes_38 rfl (ok_M rfl) (ib_in b1) ?_
    refine ar_ic_gt 59 dX12_laysFlourishes_39 (by decide) (fun c1 => ?_) (fun c1 => ?_)
    · replace H := wp_t c1 H
      refine ar_iconst (iI (0)) dX12_laysFlourishes_59 rfl ?_
      refine rs_i1 dX12_laysFlourishes_60 rfl trivial ?_
      refine ar_iconst (iI (0)) dX12_laysFlourishes_61 rfl ?_
      refine rs_i2 dX12_laysFlourishes_62 rfl trivial ?_
      exact am_V.wk (am_s (am_s (am_s (am_n (am_n am_0))))) ((lp_in H).2.2 _ _ _ rfl)
    · replace H := wp_f c1 H
      refine rl_a0 dX12_laysFlourishes_42 ?_
      refine rg_R (.inl 0) 12 dX12_laysFlourishes_43 fg_X12_51 rfl rfl rfl (ok_M rfl) ?_
      refine rl_i1 dX12_laysFlourishes_46 ?_
      refine rl_a0 dX12_laysFlourishes_47 ?_
      refine rl_i1 dX12_laysFlourishes_48 ?_
      obtain ⟨a1, e1, H⟩ := wp_b H
      refine rc_V1i dX12_laysFlourishes_49 ml_X12_301 mc_X12_roomOf (c_X12_roomOf e1) rfl rfl rfl (ok_M rfl) rfl rfl rfl ?_
      obtain ⟨b2, H⟩ := wp_g H
      refine ar_iast dX12_laysFlourishes_52 rfl (ok_M rfl) (ib_in b2) ?_
      replace H := wp_l H
      generalize am_u h (.inl 0) 12 x1.toNatClampNeg a1 = h1 at H ⊢
      refine rn_1_1 dX12_laysFlourishes_53 rfl trivial ?_
      refine ar_goto 32 dX12_laysFlourishes_56 (by decide) ?_
      exact am_V.wk (am_s (am_s (am_n (am_n (am_n am_0))))) ((lp_in H).2.1 _ _ rfl)
  · subst e
    rw [s_X12_laysFlourishes] at H
    refine rl_i2 dX12_laysFlourishes_63 ?_
    refine rl_a0 dX12_laysFlourishes_64 ?_
    refine rg_R (.inl 0) 2 dX12_laysFlourishes_65 fg_X12_20 rfl rfl rfl (ok_M rfl) ?_
    refine ar_iconst (iI (1)) dX12_laysFlourishes_68 rfl ?_
    obtain ⟨b1, H⟩ := wp_g H
    refine ar_iald dX12_laysFlourishes_69 rfl (ok_M rfl) (ib_in b1) ?_
    refine ar_ic_gt 128 dX12_laysFlourishes_70 (by decide) (fun c1 => ?_) (fun c1 => ?_)
    · replace H := wp_t c1 H
      replace H := lp_re H
      exact ar_vret dX12_laysFlourishes_128 rfl H
    · replace H := wp_f c1 H
      refine rl_a0 dX12_laysFlourishes_73 ?_
      refine rl_i1 dX12_laysFlourishes_74 ?_
      obtain ⟨a1, e1, H⟩ := wp_b H
      refine rc_V1i dX12_laysFlourishes_75 ml_X12_310 mc_X12_largestEmpty (c_X12_largestEmpty e1) rfl rfl rfl (ok_M rfl) rfl rfl rfl ?_
      refine rs_i3 dX12_laysFlourishes_78 rfl trivial ?_
      refine rl_i1 dX12_laysFlourishes_79 ?_
      refine ar_iconst (iI (1)) dX12_laysFlourishes_80 rfl ?_
      refine rl_i3 dX12_laysFlourishes_81 ?_
      refine ar_ishl dX12_laysFlourishes_82 ?_
      refine ar_ior dX12_laysFlourishes_83 ?_
      refine rs_i1 dX12_laysFlourishes_84 rfl trivial ?_
      refine rl_a0 dX12_laysFlourishes_85 ?_
      refine rl_a0 dX12_laysFlourishes_86 ?_
      refine rg_R (.inl 0) 12 dX12_laysFlourishes_87 fg_X12_51 rfl rfl rfl (ok_M rfl) ?_
      refine rl_i3 dX12_laysFlourishes_90 ?_
      obtain ⟨b2, H⟩ := wp_g H
      refine ar_iald dX12_laysFlourishes_91 rfl (ok_M rfl) (ib_in b2) ?_
      obtain ⟨a2, e2, H⟩ := wp_b H
      refine rc_V1i dX12_laysFlourishes_92 ml_X12_313 mc_X12_kindFor (c_X12_kindFor e2) rfl rfl rfl (ok_M rfl) rfl rfl rfl ?_
      refine rs_i4 dX12_laysFlourishes_95 rfl trivial ?_
      refine rl_a0 dX12_laysFlourishes_97 ?_
      refine rg_R (.inl 0) 10 dX12_laysFlourishes_98 fg_X12_45 rfl rfl rfl (ok_M rfl) ?_
      refine rl_i3 dX12_laysFlourishes_101 ?_
      refine rl_i4 dX12_laysFlourishes_102 ?_
      obtain ⟨b3, H⟩ := wp_g H
      refine ar_iast dX12_laysFlourishes_104 rfl (ok_M rfl) (ib_in b3) ?_
      replace H := wp_l H
      generalize am_u h (.inl 0) 10 a1.toNatClampNeg a2 = h1 at H ⊢
      refine rl_i4 dX12_laysFlourishes_105 ?_
      refine ar_iconst (iI (-1)) dX12_laysFlourishes_107 rfl ?_
      refine ar_ic_eq 122 dX12_laysFlourishes_108 (by decide) (fun c2 => ?_) (fun c2 => ?_)
      · replace H := wp_t c2 H
        refine rn_1_2 dX12_laysFlourishes_122 rfl trivial ?_
        refine ar_goto 63 dX12_laysFlourishes_125 (by decide) ?_
        exact am_V.wk (am_s (am_s (am_s (am_n (am_n am_0))))) ((lp_in H).2.2 _ _ _ rfl)
      · replace H := wp_f c2 H
        refine rl_a0 dX12_laysFlourishes_111 ?_
        refine rg_R (.inl 0) 11 dX12_laysFlourishes_112 fg_X12_48 rfl rfl rfl (ok_M rfl) ?_
        refine rl_i4 dX12_laysFlourishes_115 ?_
        refine ar_dup2 dX12_laysFlourishes_117 trivial trivial ?_
        obtain ⟨b4, H⟩ := wp_g H
        refine ar_iald dX12_laysFlourishes_118 rfl (ok_M rfl) (ib_in b4) ?_
        refine ar_iconst (iI (1)) dX12_laysFlourishes_119 rfl ?_
        refine ar_isub dX12_laysFlourishes_120 ?_
        obtain ⟨b5, H⟩ := wp_g H
        refine ar_iast dX12_laysFlourishes_121 rfl (ok_M rfl) (ib_in b5) ?_
        replace H := wp_l H
        generalize am_u h1 (.inl 0) 11 a2.toNatClampNeg ((h1.1 (.inl 0) 11 a2.toNatClampNeg) - (iI (1))) = h2 at H ⊢
        refine rn_1_2 dX12_laysFlourishes_122 rfl trivial ?_
        refine ar_goto 63 dX12_laysFlourishes_125 (by decide) ?_
        exact am_V.wk (am_s (am_s (am_s (am_n (am_n am_0))))) ((lp_in H).2.2 _ _ _ rfl)
theorem c_X12_laysFlourishes  {h : am_H} {a : am_H} (e : f_X12_laysFlourishes h = some a) : am_Mv yX12_laysFlourishes cX12_laysFlourishes 5 (none) 7 151 [am_r (.inl 0) 0] h a := by
  refine am_M.ofv (A := [some (am_r (.inl 0) 0), none, none, none, none]) (by decide +kernel) rfl (ble rfl) (fun Q hQ => ?_)
  have H : wp (f_X12_laysFlourishes h) (fun a => Q none a) := ⟨a, e, hQ⟩
  unfold f_X12_laysFlourishes at H
  refine ar_iconst (iI (0)) dX12_laysFlourishes_0 rfl ?_
  refine rs_i1 dX12_laysFlourishes_1 rfl trivial ?_
  exact am_V.wk (am_s (am_s (am_n (am_n (am_n am_0))))) ((c_X12_laysFlourishes_L  _ H).1 _ _ rfl)
noncomputable def f_X12_spoiledBy (x1 : Int32) (h : am_H) : Option Int32 :=
  (f_X12_ofScratch x1 (iI (0)) h).bind (fun a1 => if ib (iI (1)) 408 then (if (h.1 (.inl 0) 2 ((iI (1))).toNatClampNeg) ≤ (a1 + (iI (1))) then (some ((iI (-1)))) else ((f_X12_ofScratch x1 (iI (1)) h).bind (fun a2 => (f_X12_roomOf (a1 + (iI (1))) h).bind (fun a3 => if a2 ≤ a3 then (some ((iI (-1)))) else (some ((a1 + (iI (1))))))))) else none)
theorem c_X12_spoiledBy {x1 : Int32} {h : am_H} {a : Int32} (e : f_X12_spoiledBy x1 h = some a) : am_Mi yX12_spoiledBy cX12_spoiledBy 3 (some .int) 7 151 [am_r (.inl 0) 0, am_i x1] h a h := by
  refine am_M.ofi (A := [some (am_r (.inl 0) 0), some (am_i x1), none]) (by decide +kernel) rfl (ble rfl) (fun Q hQ => ?_)
  have H : wp (f_X12_spoiledBy x1 h) (fun a => Q (some (am_i a)) h) := ⟨a, e, hQ⟩
  unfold f_X12_spoiledBy at H
  refine rl_a0 dX12_spoiledBy_0 ?_
  refine rl_i1 dX12_spoiledBy_1 ?_
  refine ar_iconst (iI (0)) dX12_spoiledBy_2 rfl ?_
  obtain ⟨a1, e1, H⟩ := wp_b H
  refine rc_V2i dX12_spoiledBy_3 ml_X12_316 mc_X12_ofScratch (c_X12_ofScratch e1) rfl rfl rfl (ok_M rfl) rfl rfl rfl ?_
  refine ar_iconst (iI (1)) dX12_spoiledBy_6 rfl ?_
  refine ar_iadd dX12_spoiledBy_7 ?_
  refine rs_i2 dX12_spoiledBy_8 rfl trivial ?_
  refine rl_i2 dX12_spoiledBy_9 ?_
  refine rl_a0 dX12_spoiledBy_10 ?_
  refine rg_R (.inl 0) 2 dX12_spoiledBy_11 fg_X12_20 rfl rfl rfl (ok_M rfl) ?_
  refine ar_iconst (iI (1)) dX12_spoiledBy_14 rfl ?_
  obtain ⟨b1, H⟩ := wp_g H
  refine ar_iald dX12_spoiledBy_15 rfl (ok_M rfl) (ib_in b1) ?_
  refine ar_ic_ge 37 dX12_spoiledBy_16 (by decide) (fun c1 => ?_) (fun c1 => ?_)
  · replace H := wp_t c1 H
    refine ar_iconst (iI (-1)) dX12_spoiledBy_37 rfl ?_
    replace H := wp_s H
    exact ar_iret dX12_spoiledBy_38 rfl rfl H
  · replace H := wp_f c1 H
    refine rl_a0 dX12_spoiledBy_19 ?_
    refine rl_i1 dX12_spoiledBy_20 ?_
    refine ar_iconst (iI (1)) dX12_spoiledBy_21 rfl ?_
    obtain ⟨a2, e2, H⟩ := wp_b H
    refine rc_V2i dX12_spoiledBy_22 ml_X12_316 mc_X12_ofScratch (c_X12_ofScratch e2) rfl rfl rfl (ok_M rfl) rfl rfl rfl ?_
    refine rl_a0 dX12_spoiledBy_25 ?_
    refine rl_i2 dX12_spoiledBy_26 ?_
    obtain ⟨a3, e3, H⟩ := wp_b H
    refine rc_V1i dX12_spoiledBy_27 ml_X12_301 mc_X12_roomOf (c_X12_roomOf e3) rfl rfl rfl (ok_M rfl) rfl rfl rfl ?_
    refine ar_ic_le 37 dX12_spoiledBy_30 (by decide) (fun c2 => ?_) (fun c2 => ?_)
    · replace H := wp_t c2 H
      refine ar_iconst (iI (-1)) dX12_spoiledBy_37 rfl ?_
      replace H := wp_s H
      exact ar_iret dX12_spoiledBy_38 rfl rfl H
    · replace H := wp_f c2 H
      refine rl_i2 dX12_spoiledBy_33 ?_
      refine ar_goto 38 dX12_spoiledBy_34 (by decide) ?_
      replace H := wp_s H
      exact ar_iret dX12_spoiledBy_38 rfl rfl H
noncomputable def s_X12_isSpoiled  (h : am_H) : am_S Unit → Option (am_S Unit ⊕ Int32) := fun s => match s with
  | (4, [x1, x2, x3], [], [], ()) => if ib (iI (8)) 408 then (if (h.1 (.inl 0) 2 ((iI (8))).toNatClampNeg) ≤ x3 then (if zb x2 then (some (.inr (x2))) else none) else (if x2 = 0 then ((f_X12_spoiledBy x3 h).bind (fun a1 => if a1 = x1 then (some (.inl (4, [x1, (iI (1)), (x3 + 1)], [], [], ()))) else (some (.inl (4, [x1, (iI (0)), (x3 + 1)], [], [], ()))))) else (if zb x2 then (some (.inr (x2))) else none))) else none
  | _ => none
noncomputable def f_X12_isSpoiled_4  (x1 : Int32) (x2 : Int32) (x3 : Int32) (h : am_H) : Option Int32 := lp (s_X12_isSpoiled h) (4, [x1, x2, x3], [], [], ())
theorem e_X12_isSpoiled_4  (x1 : Int32) (x2 : Int32) (x3 : Int32) (h : am_H) : f_X12_isSpoiled_4 x1 x2 x3 h = (if ib (iI (8)) 408 then (if (h.1 (.inl 0) 2 ((iI (8))).toNatClampNeg) ≤ x3 then (if zb x2 then (some (x2)) else none) else (if x2 = 0 then ((f_X12_spoiledBy x3 h).bind (fun a1 => if a1 = x1 then (f_X12_isSpoiled_4 x1 (iI (1)) (x3 + 1) h) else (f_X12_isSpoiled_4 x1 (iI (0)) (x3 + 1) h))) else (if zb x2 then (some (x2)) else none))) else none) := by
  show lp _ _ = _
  rw [lp_eq, s_X12_isSpoiled]
  simp only [lpk_i, lpk_b, lpk_l, lpk_n, lpk_j, lpk_r] <;> rfl
noncomputable def f_X12_isSpoiled (x1 : Int32) (h : am_H) : Option Int32 :=
  f_X12_isSpoiled_4 x1 (iI (0)) (iI (0)) h
theorem c_X12_isSpoiled_L  {h : am_H} {Q : Option am_v → am_H → Prop} : ∀ s, wp (lp (s_X12_isSpoiled h) s) (fun a => Q (some (am_i a)) h) → ((∀ x1 x2 x3, s = (4, [x1, x2, x3], [], [], ()) → am_V RX12 cX12_isSpoiled 4 (some .boolean) 8 173 0 0 none (am_Tm cX12_isSpoiled (some .boolean) Q) 0 0 4 [some (am_r (.inl 0) 0), some (am_i x1), some (am_i x2), some (am_i x3)] [] h)) := by
  refine lp_ind _ _ (fun s H => fun x1 x2 x3 e => ?_)
  · subst e
    rw [s_X12_isSpoiled] at H
    refine rl_i3 dX12_isSpoiled_4 ?_
    refine rl_a0 dX12_isSpoiled_5 ?_
    refine rg_R (.inl 0) 2 dX12_isSpoiled_6 fg_X12_20 rfl rfl rfl (ok_M rfl) ?_
    refine ar_bipush (iI (8)) dX12_isSpoiled_9 rfl ?_
    obtain ⟨b1, H⟩ := wp_g H
    refine ar_iald dX12_isSpoiled_11 rfl (ok_M rfl) (ib_in b1) ?_
    refine ar_ic_ge 40 dX12_isSpoiled_12 (by decide) (fun c1 => ?_) (fun c1 => ?_)
    · replace H := wp_t c1 H
      refine rl_i2 dX12_isSpoiled_40 ?_
      obtain ⟨b2, H⟩ := wp_g H
      replace H := lp_re H
      exact ar_iret dX12_isSpoiled_41 rfl (zb_n b2) H
    · replace H := wp_f c1 H
      refine rl_i2 dX12_isSpoiled_15 ?_
      refine ar_if_ne 40 dX12_isSpoiled_16 (by decide) (fun c2 => ?_) (fun c2 => ?_)
      · replace H := wp_f c2 H
        refine rl_i2 dX12_isSpoiled_40 ?_
        obtain ⟨b2, H⟩ := wp_g H
        replace H := lp_re H
        exact ar_iret dX12_isSpoiled_41 rfl (zb_n b2) H
      · replace H := wp_t c2 H
        refine rl_a0 dX12_isSpoiled_19 ?_
        refine rl_i3 dX12_isSpoiled_20 ?_
        obtain ⟨a1, e1, H⟩ := wp_b H
        refine rc_V1i dX12_isSpoiled_21 ml_X12_319 mc_X12_spoiledBy (c_X12_spoiledBy e1) rfl rfl rfl (ok_M rfl) rfl rfl rfl ?_
        refine rl_i1 dX12_isSpoiled_24 ?_
        refine ar_ic_ne 32 dX12_isSpoiled_25 (by decide) (fun c3 => ?_) (fun c3 => ?_)
        · replace H := wp_f c3 H
          refine ar_iconst (iI (0)) dX12_isSpoiled_32 rfl ?_
          refine rs_i2 dX12_isSpoiled_33 rfl trivial ?_
          refine rn_1_3 dX12_isSpoiled_34 rfl trivial ?_
          refine ar_goto 4 dX12_isSpoiled_37 (by decide) ?_
          exact am_V.wk (am_s (am_s (am_s (am_s am_0)))) ((lp_in H) _ _ _ rfl)
        · replace H := wp_t c3 H
          refine ar_iconst (iI (1)) dX12_isSpoiled_28 rfl ?_
          refine ar_goto 33 dX12_isSpoiled_29 (by decide) ?_
          refine rs_i2 dX12_isSpoiled_33 rfl trivial ?_
          refine rn_1_3 dX12_isSpoiled_34 rfl trivial ?_
          refine ar_goto 4 dX12_isSpoiled_37 (by decide) ?_
          exact am_V.wk (am_s (am_s (am_s (am_s am_0)))) ((lp_in H) _ _ _ rfl)
theorem c_X12_isSpoiled {x1 : Int32} {h : am_H} {a : Int32} (e : f_X12_isSpoiled x1 h = some a) : am_Mi yX12_isSpoiled cX12_isSpoiled 4 (some .boolean) 8 173 [am_r (.inl 0) 0, am_i x1] h a h := by
  refine am_M.ofi (A := [some (am_r (.inl 0) 0), some (am_i x1), none, none]) (by decide +kernel) rfl (ble rfl) (fun Q hQ => ?_)
  have H : wp (f_X12_isSpoiled x1 h) (fun a => Q (some (am_i a)) h) := ⟨a, e, hQ⟩
  unfold f_X12_isSpoiled at H
  refine ar_iconst (iI (0)) dX12_isSpoiled_0 rfl ?_
  refine rs_i2 dX12_isSpoiled_1 rfl trivial ?_
  refine ar_iconst (iI (0)) dX12_isSpoiled_2 rfl ?_
  refine rs_i3 dX12_isSpoiled_3 rfl trivial ?_
  exact am_V.wk (am_s (am_s (am_s (am_s am_0)))) ((c_X12_isSpoiled_L  _ H) _ _ _ rfl)
noncomputable def s_X12_scratchesOf  (h : am_H) : am_S Unit → Option (am_S Unit ⊕ Int32) := fun s => match s with
  | (4, [x1, x2, x3], [], [], ()) => if ib (iI (8)) 408 then (if (h.1 (.inl 0) 2 ((iI (8))).toNatClampNeg) ≤ x3 then (some (.inr (x2))) else ((f_X12_ofScratch x3 (iI (0)) h).bind (fun a1 => if a1 = x1 then ((f_X12_truth (iI (1))).bind (fun a2 => some (.inl (4, [x1, (x2 + a2), (x3 + 1)], [], [], ())))) else ((f_X12_truth (iI (0))).bind (fun a2 => some (.inl (4, [x1, (x2 + a2), (x3 + 1)], [], [], ()))))))) else none
  | _ => none
noncomputable def f_X12_scratchesOf_4  (x1 : Int32) (x2 : Int32) (x3 : Int32) (h : am_H) : Option Int32 := lp (s_X12_scratchesOf h) (4, [x1, x2, x3], [], [], ())
theorem e_X12_scratchesOf_4  (x1 : Int32) (x2 : Int32) (x3 : Int32) (h : am_H) : f_X12_scratchesOf_4 x1 x2 x3 h = (if ib (iI (8)) 408 then (if (h.1 (.inl 0) 2 ((iI (8))).toNatClampNeg) ≤ x3 then (some (x2)) else ((f_X12_ofScratch x3 (iI (0)) h).bind (fun a1 => if a1 = x1 then ((f_X12_truth (iI (1))).bind (fun a2 => f_X12_scratchesOf_4 x1 (x2 + a2) (x3 + 1) h)) else ((f_X12_truth (iI (0))).bind (fun a2 => f_X12_scratchesOf_4 x1 (x2 + a2) (x3 + 1) h))))) else none) := by
  show lp _ _ = _
  rw [lp_eq, s_X12_scratchesOf]
  simp only [lpk_i, lpk_b, lpk_l, lpk_n, lpk_j, lpk_r] <;> rfl
noncomputable def f_X12_scratchesOf (x1 : Int32) (h : am_H) : Option Int32 :=
  f_X12_scratchesOf_4 x1 (iI (0)) (iI (0)) h
theorem c_X12_scratchesOf_L  {h : am_H} {Q : Option am_v → am_H → Prop} : ∀ s, wp (lp (s_X12_scratchesOf h) s) (fun a => Q (some (am_i a)) h) → ((∀ x1 x2 x3, s = (4, [x1, x2, x3], [], [], ()) → am_V RX12 cX12_scratchesOf 4 (some .int) 1 22 0 0 none (am_Tm cX12_scratchesOf (some .int) Q) 0 0 4 [some (am_r (.inl 0) 0), some (am_i x1), some (am_i x2), some (am_i x3)] [] h)) := by
  refine lp_ind _ _ (fun s H => fun x1 x2 x3 e => ?_)
  · subst e
    rw [s_X12_scratchesOf] at H
    refine rl_i3 dX12_scratchesOf_4 ?_
    refine rl_a0 dX12_scratchesOf_5 ?_
    refine rg_R (.inl 0) 2 dX12_scratchesOf_6 fg_X12_20 rfl rfl rfl (ok_M rfl) ?_
    refine ar_bipush (iI (8)) dX12_scratchesOf_9 rfl ?_
    obtain ⟨b1, H⟩ := wp_g H
    refine ar_iald dX12_scratchesOf_11 rfl (ok_M rfl) (ib_in b1) ?_
    refine ar_ic_ge 42 dX12_scratchesOf_12 (by decide) (fun c1 => ?_) (fun c1 => ?_)
    · replace H := wp_t c1 H
      refine rl_i2 dX12_scratchesOf_42 ?_
      replace H := lp_re H
      exact ar_iret dX12_scratchesOf_43 rfl rfl H
    · replace H := wp_f c1 H
      refine rl_i2 dX12_scratchesOf_15 ?_
      refine rl_a0 dX12_scratchesOf_16 ?_
      refine rl_i3 dX12_scratchesOf_17 ?_
      refine ar_iconst (iI (0)) dX12_scratchesOf_18 rfl ?_
      obtain ⟨a1, e1, H⟩ := wp_b H
      refine rc_V2i dX12_scratchesOf_19 ml_X12_316 mc_X12_ofScratch (c_X12_ofScratch e1) rfl rfl rfl (ok_M rfl) rfl rfl rfl ?_
      refine rl_i1 dX12_scratchesOf_22 ?_
      refine ar_ic_ne 30 dX12_scratchesOf_23 (by decide) (fun c2 => ?_) (fun c2 => ?_)
      · replace H := wp_f c2 H
        refine ar_iconst (iI (0)) dX12_scratchesOf_30 rfl ?_
        obtain ⟨a2, e2, H⟩ := wp_b H
        refine rc_S1i dX12_scratchesOf_31 ml_X12_75 mc_X12_truth (c_X12_truth e2) rfl rfl rfl ?_
        refine ar_iadd dX12_scratchesOf_34 ?_
        refine rs_i2 dX12_scratchesOf_35 rfl trivial ?_
        refine rn_1_3 dX12_scratchesOf_36 rfl trivial ?_
        refine ar_goto 4 dX12_scratchesOf_39 (by decide) ?_
        exact am_V.wk (am_s (am_s (am_s (am_s am_0)))) ((lp_in H) _ _ _ rfl)
      · replace H := wp_t c2 H
        refine ar_iconst (iI (1)) dX12_scratchesOf_26 rfl ?_
        refine ar_goto 31 dX12_scratchesOf_27 (by decide) ?_
        obtain ⟨a2, e2, H⟩ := wp_b H
        refine rc_S1i dX12_scratchesOf_31 ml_X12_75 mc_X12_truth (c_X12_truth e2) rfl rfl rfl ?_
        refine ar_iadd dX12_scratchesOf_34 ?_
        refine rs_i2 dX12_scratchesOf_35 rfl trivial ?_
        refine rn_1_3 dX12_scratchesOf_36 rfl trivial ?_
        refine ar_goto 4 dX12_scratchesOf_39 (by decide) ?_
        exact am_V.wk (am_s (am_s (am_s (am_s am_0)))) ((lp_in H) _ _ _ rfl)
theorem c_X12_scratchesOf {x1 : Int32} {h : am_H} {a : Int32} (e : f_X12_scratchesOf x1 h = some a) : am_Mi yX12_scratchesOf cX12_scratchesOf 4 (some .int) 1 22 [am_r (.inl 0) 0, am_i x1] h a h := by
  refine am_M.ofi (A := [some (am_r (.inl 0) 0), some (am_i x1), none, none]) (by decide +kernel) rfl (ble rfl) (fun Q hQ => ?_)
  have H : wp (f_X12_scratchesOf x1 h) (fun a => Q (some (am_i a)) h) := ⟨a, e, hQ⟩
  unfold f_X12_scratchesOf at H
  refine ar_iconst (iI (0)) dX12_scratchesOf_0 rfl ?_
  refine rs_i2 dX12_scratchesOf_1 rfl trivial ?_
  refine ar_iconst (iI (0)) dX12_scratchesOf_2 rfl ?_
  refine rs_i3 dX12_scratchesOf_3 rfl trivial ?_
  exact am_V.wk (am_s (am_s (am_s (am_s am_0)))) ((c_X12_scratchesOf_L  _ H) _ _ _ rfl)
noncomputable def s_X12_spoiledMany  (h : am_H) : am_S Unit → Option (am_S Unit ⊕ Int32) := fun s => match s with
  | (4, [x1, x2], [], [], ()) => if ib (iI (1)) 408 then (if (h.1 (.inl 0) 2 ((iI (1))).toNatClampNeg) ≤ x2 then (some (.inr (x1))) else ((f_X12_isSpoiled x2 h).bind (fun a1 => (f_X12_truth a1).bind (fun a2 => some (.inl (4, [(x1 + a2), (x2 + 1)], [], [], ())))))) else none
  | _ => none
noncomputable def f_X12_spoiledMany_4  (x1 : Int32) (x2 : Int32) (h : am_H) : Option Int32 := lp (s_X12_spoiledMany h) (4, [x1, x2], [], [], ())
theorem e_X12_spoiledMany_4  (x1 : Int32) (x2 : Int32) (h : am_H) : f_X12_spoiledMany_4 x1 x2 h = (if ib (iI (1)) 408 then (if (h.1 (.inl 0) 2 ((iI (1))).toNatClampNeg) ≤ x2 then (some (x1)) else ((f_X12_isSpoiled x2 h).bind (fun a1 => (f_X12_truth a1).bind (fun a2 => f_X12_spoiledMany_4 (x1 + a2) (x2 + 1) h)))) else none) := by
  show lp _ _ = _
  rw [lp_eq, s_X12_spoiledMany]
  simp only [lpk_i, lpk_b, lpk_l, lpk_n, lpk_j, lpk_r] <;> rfl
noncomputable def f_X12_spoiledMany  (h : am_H) : Option Int32 :=
  f_X12_spoiledMany_4 (iI (0)) (iI (0)) h
theorem c_X12_spoiledMany_L  {h : am_H} {Q : Option am_v → am_H → Prop} : ∀ s, wp (lp (s_X12_spoiledMany h) s) (fun a => Q (some (am_i a)) h) → ((∀ x1 x2, s = (4, [x1, x2], [], [], ()) → am_V RX12 cX12_spoiledMany 3 (some .int) 9 196 0 0 none (am_Tm cX12_spoiledMany (some .int) Q) 0 0 4 [some (am_r (.inl 0) 0), some (am_i x1), some (am_i x2)] [] h)) := by
  refine lp_ind _ _ (fun s H => fun x1 x2 e => ?_)
  · subst e
    rw [s_X12_spoiledMany] at H
    refine rl_i2 dX12_spoiledMany_4 ?_
    refine rl_a0 dX12_spoiledMany_5 ?_
    refine rg_R (.inl 0) 2 dX12_spoiledMany_6 fg_X12_20 rfl rfl rfl (ok_M rfl) ?_
    refine ar_iconst (iI (1)) dX12_spoiledMany_9 rfl ?_
    obtain ⟨b1, H⟩ := wp_g H
    refine ar_iald dX12_spoiledMany_10 rfl (ok_M rfl) (ib_in b1) ?_
    refine ar_ic_ge 31 dX12_spoiledMany_11 (by decide) (fun c1 => ?_) (fun c1 => ?_)
    · replace H := wp_t c1 H
      refine rl_i1 dX12_spoiledMany_31 ?_
      replace H := lp_re H
      exact ar_iret dX12_spoiledMany_32 rfl rfl H
    · replace H := wp_f c1 H
      refine rl_i1 dX12_spoiledMany_14 ?_
      refine rl_a0 dX12_spoiledMany_15 ?_
      refine rl_i2 dX12_spoiledMany_16 ?_
      obtain ⟨a1, e1, H⟩ := wp_b H
      refine rc_V1i dX12_spoiledMany_17 ml_X12_322 mc_X12_isSpoiled (c_X12_isSpoiled e1) rfl rfl rfl (ok_M rfl) rfl rfl rfl ?_
      obtain ⟨a2, e2, H⟩ := wp_b H
      refine rc_S1i dX12_spoiledMany_20 ml_X12_75 mc_X12_truth (c_X12_truth e2) rfl rfl rfl ?_
      refine ar_iadd dX12_spoiledMany_23 ?_
      refine rs_i1 dX12_spoiledMany_24 rfl trivial ?_
      refine rn_1_2 dX12_spoiledMany_25 rfl trivial ?_
      refine ar_goto 4 dX12_spoiledMany_28 (by decide) ?_
      exact am_V.wk (am_s (am_s (am_s am_0))) ((lp_in H) _ _ rfl)
theorem c_X12_spoiledMany  {h : am_H} {a : Int32} (e : f_X12_spoiledMany h = some a) : am_Mi yX12_spoiledMany cX12_spoiledMany 3 (some .int) 9 196 [am_r (.inl 0) 0] h a h := by
  refine am_M.ofi (A := [some (am_r (.inl 0) 0), none, none]) (by decide +kernel) rfl (ble rfl) (fun Q hQ => ?_)
  have H : wp (f_X12_spoiledMany h) (fun a => Q (some (am_i a)) h) := ⟨a, e, hQ⟩
  unfold f_X12_spoiledMany at H
  refine ar_iconst (iI (0)) dX12_spoiledMany_0 rfl ?_
  refine rs_i1 dX12_spoiledMany_1 rfl trivial ?_
  refine ar_iconst (iI (0)) dX12_spoiledMany_2 rfl ?_
  refine rs_i2 dX12_spoiledMany_3 rfl trivial ?_
  exact am_V.wk (am_s (am_s (am_s am_0))) ((c_X12_spoiledMany_L  _ H) _ _ rfl)
noncomputable def s_X12_engravedMany  (h : am_H) : am_S Unit → Option (am_S Unit ⊕ Int32) := fun s => match s with
  | (4, [x1, x2], [], [], ()) => if ib (iI (1)) 408 then (if (h.1 (.inl 0) 2 ((iI (1))).toNatClampNeg) ≤ x2 then (some (.inr (x1))) else ((f_X12_ofLetter x2 (iI (1)) h).bind (fun a1 => some (.inl (4, [(x1 + a1), (x2 + 1)], [], [], ()))))) else none
  | _ => none
noncomputable def f_X12_engravedMany_4  (x1 : Int32) (x2 : Int32) (h : am_H) : Option Int32 := lp (s_X12_engravedMany h) (4, [x1, x2], [], [], ())
theorem e_X12_engravedMany_4  (x1 : Int32) (x2 : Int32) (h : am_H) : f_X12_engravedMany_4 x1 x2 h = (if ib (iI (1)) 408 then (if (h.1 (.inl 0) 2 ((iI (1))).toNatClampNeg) ≤ x2 then (some (x1)) else ((f_X12_ofLetter x2 (iI (1)) h).bind (fun a1 => f_X12_engravedMany_4 (x1 + a1) (x2 + 1) h))) else none) := by
  show lp _ _ = _
  rw [lp_eq, s_X12_engravedMany]
  simp only [lpk_i, lpk_b, lpk_l, lpk_n, lpk_j, lpk_r] <;> rfl
noncomputable def f_X12_engravedMany  (h : am_H) : Option Int32 :=
  f_X12_engravedMany_4 (iI (0)) (iI (0)) h
theorem c_X12_engravedMany_L  {h : am_H} {Q : Option am_v → am_H → Prop} : ∀ s, wp (lp (s_X12_engravedMany h) s) (fun a => Q (some (am_i a)) h) → ((∀ x1 x2, s = (4, [x1, x2], [], [], ()) → am_V RX12 cX12_engravedMany 3 (some .int) 1 22 0 0 none (am_Tm cX12_engravedMany (some .int) Q) 0 0 4 [some (am_r (.inl 0) 0), some (am_i x1), some (am_i x2)] [] h)) := by
  refine lp_ind _ _ (fun s H => fun x1 x2 e => ?_)
  · subst e
    rw [s_X12_engravedMany] at H
    refine rl_i2 dX12_engravedMany_4 ?_
    refine rl_a0 dX12_engravedMany_5 ?_
    refine rg_R (.inl 0) 2 dX12_engravedMany_6 fg_X12_20 rfl rfl rfl (ok_M rfl) ?_
    refine ar_iconst (iI (1)) dX12_engravedMany_9 rfl ?_
    obtain ⟨b1, H⟩ := wp_g H
    refine ar_iald dX12_engravedMany_10 rfl (ok_M rfl) (ib_in b1) ?_
    refine ar_ic_ge 29 dX12_engravedMany_11 (by decide) (fun c1 => ?_) (fun c1 => ?_)
    · replace H := wp_t c1 H
      refine rl_i1 dX12_engravedMany_29 ?_
      replace H := lp_re H
      exact ar_iret dX12_engravedMany_30 rfl rfl H
    · replace H := wp_f c1 H
      refine rl_i1 dX12_engravedMany_14 ?_
      refine rl_a0 dX12_engravedMany_15 ?_
      refine rl_i2 dX12_engravedMany_16 ?_
      refine ar_iconst (iI (1)) dX12_engravedMany_17 rfl ?_
      obtain ⟨a1, e1, H⟩ := wp_b H
      refine rc_V2i dX12_engravedMany_18 ml_X12_280 mc_X12_ofLetter (c_X12_ofLetter e1) rfl rfl rfl (ok_M rfl) rfl rfl rfl ?_
      refine ar_iadd dX12_engravedMany_21 ?_
      refine rs_i1 dX12_engravedMany_22 rfl trivial ?_
      refine rn_1_2 dX12_engravedMany_23 rfl trivial ?_
      refine ar_goto 4 dX12_engravedMany_26 (by decide) ?_
      exact am_V.wk (am_s (am_s (am_s am_0))) ((lp_in H) _ _ rfl)
theorem c_X12_engravedMany  {h : am_H} {a : Int32} (e : f_X12_engravedMany h = some a) : am_Mi yX12_engravedMany cX12_engravedMany 3 (some .int) 1 22 [am_r (.inl 0) 0] h a h := by
  refine am_M.ofi (A := [some (am_r (.inl 0) 0), none, none]) (by decide +kernel) rfl (ble rfl) (fun Q hQ => ?_)
  have H : wp (f_X12_engravedMany h) (fun a => Q (some (am_i a)) h) := ⟨a, e, hQ⟩
  unfold f_X12_engravedMany at H
  refine ar_iconst (iI (0)) dX12_engravedMany_0 rfl ?_
  refine rs_i1 dX12_engravedMany_1 rfl trivial ?_
  refine ar_iconst (iI (0)) dX12_engravedMany_2 rfl ?_
  refine rs_i2 dX12_engravedMany_3 rfl trivial ?_
  exact am_V.wk (am_s (am_s (am_s am_0))) ((c_X12_engravedMany_L  _ H) _ _ rfl)
noncomputable def s_X12_dropsScratch  : am_S am_H → Option (am_S am_H ⊕ am_H) := fun s => match s with
  | (15, [x2], [], [], h) => if ib (iI (8)) 408 then (if ((iI (2)) * (h.1 (.inl 0) 2 ((iI (8))).toNatClampNeg)) ≤ x2 then (some (.inr (h))) else (if ib (((iI (148)) + x2) + (iI (2))) 408 then (if ib ((iI (148)) + x2) 408 then (am_lt (am_u h (.inl 0) 2 ((((iI (148)) + x2)).toNatClampNeg) (h.1 (.inl 0) 2 ((((iI (148)) + x2) + (iI (2)))).toNatClampNeg)) (fun h1 => some (.inl (15, [(x2 + 1)], [], [], h1)))) else none) else none)) else none
  | _ => none
noncomputable def f_X12_dropsScratch_15  (x2 : Int32) (h : am_H) : Option am_H := lp (s_X12_dropsScratch) (15, [x2], [], [], h)
theorem e_X12_dropsScratch_15  (x2 : Int32) (h : am_H) : f_X12_dropsScratch_15 x2 h = (if ib (iI (8)) 408 then (if ((iI (2)) * (h.1 (.inl 0) 2 ((iI (8))).toNatClampNeg)) ≤ x2 then (some (h)) else (if ib (((iI (148)) + x2) + (iI (2))) 408 then (if ib ((iI (148)) + x2) 408 then (am_lt (am_u h (.inl 0) 2 ((((iI (148)) + x2)).toNatClampNeg) (h.1 (.inl 0) 2 ((((iI (148)) + x2) + (iI (2)))).toNatClampNeg)) (fun h1 => f_X12_dropsScratch_15 (x2 + 1) h1)) else none) else none)) else none) := by
  show lp _ _ = _
  rw [lp_eq, s_X12_dropsScratch]
  simp only [lpk_i, lpk_b, lpk_l, lpk_n, lpk_j, lpk_r] <;> rfl
noncomputable def f_X12_dropsScratch (x1 : Int32) (h : am_H) : Option am_H :=
  if ib (iI (8)) 408 then (if ib (iI (8)) 408 then (am_lt (am_u h (.inl 0) 2 (((iI (8))).toNatClampNeg) ((h.1 (.inl 0) 2 ((iI (8))).toNatClampNeg) - (iI (1)))) (fun h1 => f_X12_dropsScratch_15 ((iI (2)) * x1) h1)) else none) else none
theorem c_X12_dropsScratch_L  {Q : Option am_v → am_H → Prop} : ∀ s, wp (lp (s_X12_dropsScratch) s) (fun a => Q none a) → ((∀ x2 h, s = (15, [x2], [], [], h) → am_V RX12 cX12_dropsScratch 3 (none) 0 0 0 0 none (am_Tm cX12_dropsScratch (none) Q) 0 0 15 [some (am_r (.inl 0) 0), none, some (am_i x2)] [] h)) := by
  refine lp_ind _ _ (fun s H => fun x2 h e => ?_)
  · subst e
    rw [s_X12_dropsScratch] at H
    refine rl_i2 dX12_dropsScratch_15 ?_
    refine ar_iconst (iI (2)) dX12_dropsScratch_16 rfl ?_
    refine rl_a0 dX12_dropsScratch_17 ?_
    refine rg_R (.inl 0) 2 dX12_dropsScratch_18 fg_X12_20 rfl rfl rfl (ok_M rfl) ?_
    refine ar_bipush (iI (8)) dX12_dropsScratch_21 rfl ?_
    obtain ⟨b1, H⟩ := wp_g H
    refine ar_iald dX12_dropsScratch_23 rfl (ok_M rfl) (ib_in b1) ?_
    refine ar_imul dX12_dropsScratch_24 ?_
    refine ar_ic_ge 56 dX12_dropsScratch_25 (by decide) (fun c1 => ?_) (fun c1 => ?_)
    · replace H := wp_t c1 H
      replace H := lp_re H
      exact ar_vret dX12_dropsScratch_56 rfl H
    · replace H := wp_f c1 H
      refine rl_a0 dX12_dropsScratch_28 ?_
      refine rg_R (.inl 0) 2 dX12_dropsScratch_29 fg_X12_20 rfl rfl rfl (ok_M rfl) ?_
      refine ar_sipush (iI (148)) dX12_dropsScratch_32 rfl ?_
      refine rl_i2 dX12_dropsScratch_35 ?_
      refine ar_iadd dX12_dropsScratch_36 ?_
      refine rl_a0 dX12_dropsScratch_37 ?_
      refine rg_R (.inl 0) 2 dX12_dropsScratch_38 fg_X12_20 rfl rfl rfl (ok_M rfl) ?_
      refine ar_sipush (iI (148)) dX12_dropsScratch_41 rfl ?_
      refine rl_i2 dX12_dropsScratch_44 ?_
      refine ar_iadd dX12_dropsScratch_45 ?_
      refine ar_iconst (iI (2)) dX12_dropsScratch_46 rfl ?_
      refine ar_iadd dX12_dropsScratch_47 ?_
      obtain ⟨b2, H⟩ := wp_g H
      refine ar_iald dX12_dropsScratch_48 rfl (ok_M rfl) (ib_in b2) ?_
      obtain ⟨b3, H⟩ := wp_g H
      refine ar_iast dX12_dropsScratch_49 rfl (ok_M rfl) (ib_in b3) ?_
      replace H := wp_l H
      generalize am_u h (.inl 0) 2 ((((iI (148)) + x2)).toNatClampNeg) (h.1 (.inl 0) 2 ((((iI (148)) + x2) + (iI (2)))).toNatClampNeg) = h1 at H ⊢
      refine rn_1_2 dX12_dropsScratch_50 rfl trivial ?_
      refine ar_goto 15 dX12_dropsScratch_53 (by decide) ?_
      exact am_V.wk (am_s (am_n (am_s am_0))) ((lp_in H) _ _ rfl)
theorem c_X12_dropsScratch {x1 : Int32} {h : am_H} {a : am_H} (e : f_X12_dropsScratch x1 h = some a) : am_Mv yX12_dropsScratch cX12_dropsScratch 3 (none) 0 0 [am_r (.inl 0) 0, am_i x1] h a := by
  refine am_M.ofv (A := [some (am_r (.inl 0) 0), some (am_i x1), none]) (by decide +kernel) rfl (ble rfl) (fun Q hQ => ?_)
  have H : wp (f_X12_dropsScratch x1 h) (fun a => Q none a) := ⟨a, e, hQ⟩
  unfold f_X12_dropsScratch at H
  refine rl_a0 dX12_dropsScratch_0 ?_
  refine rg_R (.inl 0) 2 dX12_dropsScratch_1 fg_X12_20 rfl rfl rfl (ok_M rfl) ?_
  refine ar_bipush (iI (8)) dX12_dropsScratch_4 rfl ?_
  refine ar_dup2 dX12_dropsScratch_6 trivial trivial ?_
  obtain ⟨b1, H⟩ := wp_g H
  refine ar_iald dX12_dropsScratch_7 rfl (ok_M rfl) (ib_in b1) ?_
  refine ar_iconst (iI (1)) dX12_dropsScratch_8 rfl ?_
  refine ar_isub dX12_dropsScratch_9 ?_
  obtain ⟨b2, H⟩ := wp_g H
  refine ar_iast dX12_dropsScratch_10 rfl (ok_M rfl) (ib_in b2) ?_
  replace H := wp_l H
  generalize am_u h (.inl 0) 2 (((iI (8))).toNatClampNeg) ((h.1 (.inl 0) 2 ((iI (8))).toNatClampNeg) - (iI (1))) = h1 at H ⊢
  refine ar_iconst (iI (2)) dX12_dropsScratch_11 rfl ?_
  refine rl_i1 dX12_dropsScratch_12 ?_
  refine ar_imul dX12_dropsScratch_13 ?_
  refine rs_i2 dX12_dropsScratch_14 rfl trivial ?_
  exact am_V.wk (am_s (am_n (am_s am_0))) ((c_X12_dropsScratch_L  _ H) _ _ rfl)
noncomputable def f_X12_draws (x1 : Int32) (h : am_H) : Option (Int32 × am_H) :=
  if ib (iI (5)) 408 then (if ib (iI (5)) 408 then (am_lt (am_u h (.inl 0) 2 (((iI (5))).toNatClampNeg) (((h.1 (.inl 0) 2 ((iI (5))).toNatClampNeg) * (1103515245 : Int32)) + (iI (12345)))) (fun h1 => if ib (iI (5)) 408 then (if x1 = 0 then none else (some ((((((h1.1 (.inl 0) 2 ((iI (5))).toNatClampNeg).toUInt32 >>> ((iI (16)).toUInt32 &&& Int32.toUInt32 31)).toInt32) - (((h1.1 (.inl 0) 2 ((iI (5))).toNatClampNeg).toUInt32 >>> ((iI (16)).toUInt32 &&& Int32.toUInt32 31)).toInt32) / x1 * x1), h1)))) else none)) else none) else none
theorem c_X12_draws {x1 : Int32} {h : am_H} {a : Int32 × am_H} (e : f_X12_draws x1 h = some a) : am_Mi yX12_draws cX12_draws 2 (some .int) 0 0 [am_r (.inl 0) 0, am_i x1] h a.1 a.2 := by
  refine am_M.ofi (A := [some (am_r (.inl 0) 0), some (am_i x1)]) (by decide +kernel) rfl (ble rfl) (fun Q hQ => ?_)
  have H : wp (f_X12_draws x1 h) (fun a => Q (some (am_i a.1)) a.2) := ⟨a, e, hQ⟩
  unfold f_X12_draws at H
  refine rl_a0 dX12_draws_0 ?_
  refine rg_R (.inl 0) 2 dX12_draws_1 fg_X12_20 rfl rfl rfl (ok_M rfl) ?_
  refine ar_iconst (iI (5)) dX12_draws_4 rfl ?_
  refine rl_a0 dX12_draws_5 ?_
  refine rg_R (.inl 0) 2 dX12_draws_6 fg_X12_20 rfl rfl rfl (ok_M rfl) ?_
  refine ar_iconst (iI (5)) dX12_draws_9 rfl ?_
  obtain ⟨b1, H⟩ := wp_g H
  refine ar_iald dX12_draws_10 rfl (ok_M rfl) (ib_in b1) ?_
  refine ar_ldc_w (1103515245) dX12_draws_11 kc_X12_325 ?_
  refine ar_imul dX12_draws_14 ?_
  refine ar_sipush (iI (12345)) dX12_draws_15 rfl ?_
  refine ar_iadd dX12_draws_18 ?_
  obtain ⟨b2, H⟩ := wp_g H
  refine ar_iast dX12_draws_19 rfl (ok_M rfl) (ib_in b2) ?_
  replace H := wp_l H
  generalize am_u h (.inl 0) 2 (((iI (5))).toNatClampNeg) (((h.1 (.inl 0) 2 ((iI (5))).toNatClampNeg) * (1103515245 : Int32)) + (iI (12345))) = h1 at H ⊢
  refine rl_a0 dX12_draws_20 ?_
  refine rg_R (.inl 0) 2 dX12_draws_21 fg_X12_20 rfl rfl rfl (ok_M rfl) ?_
  refine ar_iconst (iI (5)) dX12_draws_24 rfl ?_
  obtain ⟨b3, H⟩ := wp_g H
  refine ar_iald dX12_draws_25 rfl (ok_M rfl) (ib_in b3) ?_
  refine ar_bipush (iI (16)) dX12_draws_26 rfl ?_
  refine ar_iushr dX12_draws_28 ?_
  refine rl_i1 dX12_draws_29 ?_
  obtain ⟨b4, H⟩ := wp_d H
  refine ar_irem dX12_draws_30 b4 ?_
  replace H := wp_s H
  exact ar_iret dX12_draws_31 rfl rfl H
