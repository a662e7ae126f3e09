noncomputable def f_X0_copyArc (k : Nat) (k2 : Nat) (x2 : Int32) (x3 : Int32) (h : am_H) : Option am_H :=
  if ib x2 8 then (if ib x3 8 then (am_lt (am_u h (.inr k) 2 x3.toNatClampNeg (h.1 (.inr k2) 2 x2.toNatClampNeg)) (fun h1 => if ib x2 8 then (if ib x3 8 then (am_lt (am_u h1 (.inr k) 3 x3.toNatClampNeg (h1.1 (.inr k2) 3 x2.toNatClampNeg)) (fun h2 => if ib x2 8 then (if ib x3 8 then (am_lt (am_u h2 (.inr k) 4 x3.toNatClampNeg (h2.1 (.inr k2) 4 x2.toNatClampNeg)) (fun h3 => if ib x2 8 then (if ib x3 8 then (am_lt (am_u h3 (.inr k) 5 x3.toNatClampNeg (vp_nar .boolean (h3.1 (.inr k2) 5 x2.toNatClampNeg))) (fun h4 => some (h4))) else none) else none)) else none) else none)) else none) else none)) else none) else none
theorem c_X0_copyArc {k : Nat} (hk : k < 10) {k2 : Nat} (hk2 : k2 < 10) {x2 : Int32} {x3 : Int32} {h : am_H} {a : am_H} (e : f_X0_copyArc k k2 x2 x3 h = some a) : am_Mv yX0_copyArc cX0_copyArc 4 (none) 0 0 [am_r (.inr k) 1, am_r (.inr k2) 1, am_i x2, am_i x3] h a := by
  refine am_M.ofv (A := [some (am_r (.inr k) 1), some (am_r (.inr k2) 1), some (am_i x2), some (am_i x3)]) (by decide +kernel) rfl (ble rfl) (fun Q hQ => ?_)
  have H : wp (f_X0_copyArc k k2 x2 x3 h) (fun a => Q none a) := ⟨_, e, hQ⟩
  unfold f_X0_copyArc at H
  refine rl_a0 dX0_copyArc_0 ?_
  refine rg_R (.inr k) 2 dX0_copyArc_1 fg_X0_9 rfl rfl rfl (ok_P hk rfl) ?_
  refine rl_i3 dX0_copyArc_4 ?_
  refine rl_a1 dX0_copyArc_5 ?_
  refine rg_R (.inr k2) 2 dX0_copyArc_6 fg_X0_9 rfl rfl rfl (ok_P hk2 rfl) ?_
  refine rl_i2 dX0_copyArc_9 ?_
  obtain ⟨b1, H⟩ := wp_g H
  refine ar_iald dX0_copyArc_10 rfl (ok_P hk2 rfl) (ib_in b1) ?_
  obtain ⟨b2, H⟩ := wp_g H
  refine ar_iast dX0_copyArc_11 rfl (ok_P hk rfl) (ib_in b2) ?_
  replace H := wp_l H
  generalize am_u h (.inr k) 2 x3.toNatClampNeg (h.1 (.inr k2) 2 x2.toNatClampNeg) = h1 at H ⊢
  refine rl_a0 dX0_copyArc_12 ?_
  refine rg_R (.inr k) 3 dX0_copyArc_13 fg_X0_15 rfl rfl rfl (ok_P hk rfl) ?_
  refine rl_i3 dX0_copyArc_16 ?_
  refine rl_a1 dX0_copyArc_17 ?_
  refine rg_R (.inr k2) 3 dX0_copyArc_18 fg_X0_15 rfl rfl rfl (ok_P hk2 rfl) ?_
  refine rl_i2 dX0_copyArc_21 ?_
  obtain ⟨b3, H⟩ := wp_g H
  refine ar_iald dX0_copyArc_22 rfl (ok_P hk2 rfl) (ib_in b3) ?_
  obtain ⟨b4, H⟩ := wp_g H
  refine ar_iast dX0_copyArc_23 rfl (ok_P hk rfl) (ib_in b4) ?_
  replace H := wp_l H
  generalize am_u h1 (.inr k) 3 x3.toNatClampNeg (h1.1 (.inr k2) 3 x2.toNatClampNeg) = h2 at H ⊢
  refine rl_a0 dX0_copyArc_24 ?_
  refine rg_R (.inr k) 4 dX0_copyArc_25 fg_X0_18 rfl rfl rfl (ok_P hk rfl) ?_
  refine rl_i3 dX0_copyArc_28 ?_
  refine rl_a1 dX0_copyArc_29 ?_
  refine rg_R (.inr k2) 4 dX0_copyArc_30 fg_X0_18 rfl rfl rfl (ok_P hk2 rfl) ?_
  refine rl_i2 dX0_copyArc_33 ?_
  obtain ⟨b5, H⟩ := wp_g H
  refine ar_iald dX0_copyArc_34 rfl (ok_P hk2 rfl) (ib_in b5) ?_
  obtain ⟨b6, H⟩ := wp_g H
  refine ar_iast dX0_copyArc_35 rfl (ok_P hk rfl) (ib_in b6) ?_
  replace H := wp_l H
  generalize am_u h2 (.inr k) 4 x3.toNatClampNeg (h2.1 (.inr k2) 4 x2.toNatClampNeg) = h3 at H ⊢
  refine rl_a0 dX0_copyArc_36 ?_
  refine rg_R (.inr k) 5 dX0_copyArc_37 fg_X0_21 rfl rfl rfl (ok_P hk rfl) ?_
  refine rl_i3 dX0_copyArc_40 ?_
  refine rl_a1 dX0_copyArc_41 ?_
  refine rg_R (.inr k2) 5 dX0_copyArc_42 fg_X0_21 rfl rfl rfl (ok_P hk2 rfl) ?_
  refine rl_i2 dX0_copyArc_45 ?_
  obtain ⟨b7, H⟩ := wp_g H
  refine ar_zald dX0_copyArc_46 rfl (ok_P hk2 rfl) (ib_in b7) ?_
  obtain ⟨b8, H⟩ := wp_g H
  refine ar_zast dX0_copyArc_47 rfl (ok_P hk rfl) (ib_in b8) ?_
  replace H := wp_l H
  generalize am_u h3 (.inr k) 5 x3.toNatClampNeg (vp_nar .boolean (h3.1 (.inr k2) 5 x2.toNatClampNeg)) = h4 at H ⊢
  replace H := wp_s H
  exact ar_vret dX0_copyArc_48 rfl H
noncomputable def s_X0_copyFrom (k : Nat) (k2 : Nat) : am_S am_H → Option (am_S am_H ⊕ am_H) := fun s => match s with
  | (10, [x2], [], [], h) => if (h.1 (.inr k) 1 4) ≤ x2 then (some (.inr (h))) else ((f_X0_copyArc k k2 x2 x2 h).bind (fun a1 => some (.inl (10, [(x2 + 1)], [], [], a1))))
  | _ => none
noncomputable def f_X0_copyFrom_10 (k : Nat) (k2 : Nat) (x2 : Int32) (h : am_H) : Option am_H := lp (s_X0_copyFrom k k2) (10, [x2], [], [], h)
theorem e_X0_copyFrom_10 (k : Nat) (k2 : Nat) (x2 : Int32) (h : am_H) : f_X0_copyFrom_10 k k2 x2 h = (if (h.1 (.inr k) 1 4) ≤ x2 then (some (h)) else ((f_X0_copyArc k k2 x2 x2 h).bind (fun a1 => f_X0_copyFrom_10 k k2 (x2 + 1) a1))) := by
  show lp _ _ = _
  rw [lp_eq, s_X0_copyFrom]
  simp only [lpk_i, lpk_b, lpk_l, lpk_n, lpk_j, lpk_r] <;> rfl
noncomputable def f_X0_copyFrom (k : Nat) (k2 : Nat) (h : am_H) : Option am_H :=
  am_lt (am_u h (.inr k) 1 4 (h.1 (.inr k2) 1 4)) (fun h1 => f_X0_copyFrom_10 k k2 (iI (0)) h1)
theorem c_X0_copyFrom_L {k : Nat} (hk : k < 10) {k2 : Nat} (hk2 : k2 < 10) {Q : Option am_v → am_H → Prop} : ∀ s, wp (lp (s_X0_copyFrom k k2) s) (fun a => Q none a) → ((∀ x2 h, s = (10, [x2], [], [], h) → am_V RX0 cX0_copyFrom 3 (none) 1 23 0 0 none (am_Tm cX0_copyFrom (none) Q) 0 0 10 [some (am_r (.inr k) 1), some (am_r (.inr k2) 1), some (am_i x2)] [] h)) := by
  refine lp_ind _ _ (fun s H => fun x2 h e => ?_)
  · subst e
    rw [s_X0_copyFrom] at H
    refine rl_i2 dX0_copyFrom_10 ?_
    refine rl_a0 dX0_copyFrom_11 ?_
    refine ar_getI dX0_copyFrom_12 fg_X0_25 rfl rfl (ok_P hk rfl) ?_
    refine ar_ic_ge 31 dX0_copyFrom_15 (by decide) (fun c1 => ?_) (fun c1 => ?_)
    · replace H := wp_t c1 H
      replace H := lp_re H
      exact ar_vret dX0_copyFrom_31 rfl H
    · replace H := wp_f c1 H
      refine rl_a0 dX0_copyFrom_18 ?_
      refine rl_a1 dX0_copyFrom_19 ?_
      refine rl_i2 dX0_copyFrom_20 ?_
      refine rl_i2 dX0_copyFrom_21 ?_
      obtain ⟨a1, e1, H⟩ := wp_b H
      refine rc_V3v dX0_copyFrom_22 ml_X0_29 mc_X0_copyArc (c_X0_copyArc hk hk2 e1) rfl rfl rfl (ok_P hk rfl) rfl rfl rfl ?_
      refine rn_1_2 dX0_copyFrom_25 rfl trivial ?_
      refine ar_goto 10 dX0_copyFrom_28 (by decide) ?_
      exact am_V.wk (am_s (am_s (am_s am_0))) ((lp_in H) _ _ rfl)
theorem c_X0_copyFrom {k : Nat} (hk : k < 10) {k2 : Nat} (hk2 : k2 < 10) {h : am_H} {a : am_H} (e : f_X0_copyFrom k k2 h = some a) : am_Mv yX0_copyFrom cX0_copyFrom 3 (none) 1 23 [am_r (.inr k) 1, am_r (.inr k2) 1] h a := by
  refine am_M.ofv (A := [some (am_r (.inr k) 1), some (am_r (.inr k2) 1), none]) (by decide +kernel) rfl (ble rfl) (fun Q hQ => ?_)
  have H : wp (f_X0_copyFrom k k2 h) (fun a => Q none a) := ⟨_, e, hQ⟩
  unfold f_X0_copyFrom at H
  refine rl_a0 dX0_copyFrom_0 ?_
  refine rl_a1 dX0_copyFrom_1 ?_
  refine ar_getI dX0_copyFrom_2 fg_X0_25 rfl rfl (ok_P hk2 rfl) ?_
  refine ar_putI dX0_copyFrom_5 fg_X0_25 rfl rfl (ok_P hk rfl) rfl rfl ?_
  replace H := wp_l H
  generalize am_u h (.inr k) 1 4 (h.1 (.inr k2) 1 4) = h1 at H ⊢
  refine ar_iconst (iI (0)) dX0_copyFrom_8 rfl ?_
  refine rs_i2 dX0_copyFrom_9 rfl trivial ?_
  exact am_V.wk (am_s (am_s (am_s am_0))) ((c_X0_copyFrom_L hk hk2 _ H) _ _ rfl)
noncomputable def f_X0_addArc (k : Nat) (x1 : Int32) (x2 : Int32) (x3 : Int32) (x4 : Int32) (h : am_H) : Option am_H :=
  if (iI (8)) ≤ (h.1 (.inr k) 1 4) then (some (h)) else (if ib (h.1 (.inr k) 1 4) 8 then (am_lt (am_u h (.inr k) 2 (((h.1 (.inr k) 1 4)).toNatClampNeg) x1) (fun h1 => if ib (h1.1 (.inr k) 1 4) 8 then (am_lt (am_u h1 (.inr k) 3 (((h1.1 (.inr k) 1 4)).toNatClampNeg) x2) (fun h2 => if ib (h2.1 (.inr k) 1 4) 8 then (am_lt (am_u h2 (.inr k) 5 (((h2.1 (.inr k) 1 4)).toNatClampNeg) (vp_nar .boolean x3)) (fun h3 => if ib (h3.1 (.inr k) 1 4) 8 then (am_lt (am_u h3 (.inr k) 4 (((h3.1 (.inr k) 1 4)).toNatClampNeg) x4) (fun h4 => am_lt (am_u h4 (.inr k) 1 4 ((h4.1 (.inr k) 1 4) + (iI (1)))) (fun h5 => some (h5)))) else none)) else none)) else none)) else none)
theorem c_X0_addArc {k : Nat} (hk : k < 10) {x1 : Int32} {x2 : Int32} {x3 : Int32} {x4 : Int32} {h : am_H} {a : am_H} (e : f_X0_addArc k x1 x2 x3 x4 h = some a) : am_Mv yX0_addArc cX0_addArc 5 (none) 0 0 [am_r (.inr k) 1, am_i x1, am_i x2, am_i x3, am_i x4] h a := by
  refine am_M.ofv (A := [some (am_r (.inr k) 1), some (am_i x1), some (am_i x2), some (am_i x3), some (am_i x4)]) (by decide +kernel) rfl (ble rfl) (fun Q hQ => ?_)
  have H : wp (f_X0_addArc k x1 x2 x3 x4 h) (fun a => Q none a) := ⟨_, e, hQ⟩
  unfold f_X0_addArc at H
  refine rl_a0 dX0_addArc_0 ?_
  refine ar_getI dX0_addArc_1 fg_X0_25 rfl rfl (ok_P hk rfl) ?_
  refine ar_bipush (iI (8)) dX0_addArc_4 rfl ?_
  refine ar_ic_ge 60 dX0_addArc_6 (by decide) (fun c1 => ?_) (fun c1 => ?_)
  · replace H := wp_t c1 H
    replace H := wp_s H
    exact ar_vret dX0_addArc_60 rfl H
  · replace H := wp_f c1 H
    refine rl_a0 dX0_addArc_9 ?_
    refine rg_R (.inr k) 2 dX0_addArc_10 fg_X0_9 rfl rfl rfl (ok_P hk rfl) ?_
    refine rl_a0 dX0_addArc_13 ?_
    refine ar_getI dX0_addArc_14 fg_X0_25 rfl rfl (ok_P hk rfl) ?_
    refine rl_i1 dX0_addArc_17 ?_
    obtain ⟨b1, H⟩ := wp_g H
    refine ar_iast dX0_addArc_18 rfl (ok_P hk rfl) (ib_in b1) ?_
    replace H := wp_l H
    generalize am_u h (.inr k) 2 (((h.1 (.inr k) 1 4)).toNatClampNeg) x1 = h1 at H ⊢
    refine rl_a0 dX0_addArc_19 ?_
    refine rg_R (.inr k) 3 dX0_addArc_20 fg_X0_15 rfl rfl rfl (ok_P hk rfl) ?_
    refine rl_a0 dX0_addArc_23 ?_
    refine ar_getI dX0_addArc_24 fg_X0_25 rfl rfl (ok_P hk rfl) ?_
    refine rl_i2 dX0_addArc_27 ?_
    obtain ⟨b2, H⟩ := wp_g H
    refine ar_iast dX0_addArc_28 rfl (ok_P hk rfl) (ib_in b2) ?_
    replace H := wp_l H
    generalize am_u h1 (.inr k) 3 (((h1.1 (.inr k) 1 4)).toNatClampNeg) x2 = h2 at H ⊢
    refine rl_a0 dX0_addArc_29 ?_
    refine rg_R (.inr k) 5 dX0_addArc_30 fg_X0_21 rfl rfl rfl (ok_P hk rfl) ?_
    refine rl_a0 dX0_addArc_33 ?_
    refine ar_getI dX0_addArc_34 fg_X0_25 rfl rfl (ok_P hk rfl) ?_
    refine rl_i3 dX0_addArc_37 ?_
    obtain ⟨b3, H⟩ := wp_g H
    refine ar_zast dX0_addArc_38 rfl (ok_P hk rfl) (ib_in b3) ?_
    replace H := wp_l H
    generalize am_u h2 (.inr k) 5 (((h2.1 (.inr k) 1 4)).toNatClampNeg) (vp_nar .boolean x3) = h3 at H ⊢
    refine rl_a0 dX0_addArc_39 ?_
    refine rg_R (.inr k) 4 dX0_addArc_40 fg_X0_18 rfl rfl rfl (ok_P hk rfl) ?_
    refine rl_a0 dX0_addArc_43 ?_
    refine ar_getI dX0_addArc_44 fg_X0_25 rfl rfl (ok_P hk rfl) ?_
    refine rl_i4 dX0_addArc_47 ?_
    obtain ⟨b4, H⟩ := wp_g H
    refine ar_iast dX0_addArc_49 rfl (ok_P hk rfl) (ib_in b4) ?_
    replace H := wp_l H
    generalize am_u h3 (.inr k) 4 (((h3.1 (.inr k) 1 4)).toNatClampNeg) x4 = h4 at H ⊢
    refine rl_a0 dX0_addArc_50 ?_
    refine ar_dup dX0_addArc_51 trivial ?_
    refine ar_getI dX0_addArc_52 fg_X0_25 rfl rfl (ok_P hk rfl) ?_
    refine ar_iconst (iI (1)) dX0_addArc_55 rfl ?_
    refine ar_iadd dX0_addArc_56 ?_
    refine ar_putI dX0_addArc_57 fg_X0_25 rfl rfl (ok_P hk rfl) rfl rfl ?_
    replace H := wp_l H
    generalize am_u h4 (.inr k) 1 4 ((h4.1 (.inr k) 1 4) + (iI (1))) = h5 at H ⊢
    replace H := wp_s H
    exact ar_vret dX0_addArc_60 rfl H
noncomputable def f_X0_tenths (k : Nat) (x1 : Int32) (h : am_H) : Option Int32 :=
  if ib x1 8 then (some (((iI (10)) * (h.1 (.inr k) 3 x1.toNatClampNeg)))) else none
theorem c_X0_tenths {k : Nat} (hk : k < 10) {x1 : Int32} {h : am_H} {a : Int32} (e : f_X0_tenths k x1 h = some a) : am_Mi yX0_tenths cX0_tenths 2 (some .int) 0 0 [am_r (.inr k) 1, am_i x1] h a h := by
  refine am_M.ofi (A := [some (am_r (.inr k) 1), some (am_i x1)]) (by decide +kernel) rfl (ble rfl) (fun Q hQ => ?_)
  have H : wp (f_X0_tenths k x1 h) (fun a => Q (some (am_i a)) h) := ⟨_, e, hQ⟩
  unfold f_X0_tenths at H
  refine ar_bipush (iI (10)) dX0_tenths_0 rfl ?_
  refine rl_a0 dX0_tenths_2 ?_
  refine rg_R (.inr k) 3 dX0_tenths_3 fg_X0_15 rfl rfl rfl (ok_P hk rfl) ?_
  refine rl_i1 dX0_tenths_6 ?_
  obtain ⟨b1, H⟩ := wp_g H
  refine ar_iald dX0_tenths_7 rfl (ok_P hk rfl) (ib_in b1) ?_
  refine ar_imul dX0_tenths_8 ?_
  replace H := wp_s H
  exact ar_iret dX0_tenths_9 rfl rfl H
noncomputable def s_X0_turnAhead (k : Nat) (h : am_H) : am_S Unit → Option (am_S Unit ⊕ Int32) := fun s => match s with
  | (4, [x1, x2, x3], [], [], ()) => if x1 ≤ x3 then (some (.inr (x2))) else (if ib x3 8 then (some (.inl (4, [x1, (x2 + ((iI (10)) * (h.1 (.inr k) 3 x3.toNatClampNeg))), (x3 + 1)], [], [], ()))) else none)
  | _ => none
noncomputable def f_X0_turnAhead_4 (k : Nat) (x1 : Int32) (x2 : Int32) (x3 : Int32) (h : am_H) : Option Int32 := lp (s_X0_turnAhead k h) (4, [x1, x2, x3], [], [], ())
theorem e_X0_turnAhead_4 (k : Nat) (x1 : Int32) (x2 : Int32) (x3 : Int32) (h : am_H) : f_X0_turnAhead_4 k x1 x2 x3 h = (if x1 ≤ x3 then (some (x2)) else (if ib x3 8 then (f_X0_turnAhead_4 k x1 (x2 + ((iI (10)) * (h.1 (.inr k) 3 x3.toNatClampNeg))) (x3 + 1) h) else none)) := by
  show lp _ _ = _
  rw [lp_eq, s_X0_turnAhead]
  simp only [lpk_i, lpk_b, lpk_l, lpk_n, lpk_j, lpk_r] <;> rfl
noncomputable def f_X0_turnAhead (k : Nat) (x1 : Int32) (h : am_H) : Option Int32 :=
  f_X0_turnAhead_4 k x1 (iI (0)) (iI (0)) h
theorem c_X0_turnAhead_L {k : Nat} (hk : k < 10) {h : am_H} {Q : Option am_v → am_H → Prop} : ∀ s, wp (lp (s_X0_turnAhead k h) s) (fun a => Q (some (am_i a)) h) → ((∀ x1 x2 x3, s = (4, [x1, x2, x3], [], [], ()) → am_V RX0 cX0_turnAhead 4 (some .int) 0 0 0 0 none (am_Tm cX0_turnAhead (some .int) Q) 0 0 4 [some (am_r (.inr k) 1), some (am_i x1), some (am_i x2), some (am_i x3)] [] h)) := by
  refine lp_ind _ _ (fun s H => fun x1 x2 x3 e => ?_)
  · subst e
    rw [s_X0_turnAhead] at H
    refine rl_i3 dX0_turnAhead_4 ?_
    refine rl_i1 dX0_turnAhead_5 ?_
    refine ar_ic_ge 27 dX0_turnAhead_6 (by decide) (fun c1 => ?_) (fun c1 => ?_)
    · replace H := wp_t c1 H
      refine rl_i2 dX0_turnAhead_27 ?_
      replace H := lp_re H
      exact ar_iret dX0_turnAhead_28 rfl rfl H
    · replace H := wp_f c1 H
      refine rl_i2 dX0_turnAhead_9 ?_
      refine ar_bipush (iI (10)) dX0_turnAhead_10 rfl ?_
      refine rl_a0 dX0_turnAhead_12 ?_
      refine rg_R (.inr k) 3 dX0_turnAhead_13 fg_X0_15 rfl rfl rfl (ok_P hk rfl) ?_
      refine rl_i3 dX0_turnAhead_16 ?_
      obtain ⟨b1, H⟩ := wp_g H
      refine ar_iald dX0_turnAhead_17 rfl (ok_P hk rfl) (ib_in b1) ?_
      refine ar_imul dX0_turnAhead_18 ?_
      refine ar_iadd dX0_turnAhead_19 ?_
      refine rs_i2 dX0_turnAhead_20 rfl trivial ?_
      refine rn_1_3 dX0_turnAhead_21 rfl trivial ?_
      refine ar_goto 4 dX0_turnAhead_24 (by decide) ?_
      exact am_V.wk (am_s (am_s (am_s (am_s am_0)))) ((lp_in H) _ _ _ rfl)
theorem c_X0_turnAhead {k : Nat} (hk : k < 10) {x1 : Int32} {h : am_H} {a : Int32} (e : f_X0_turnAhead k x1 h = some a) : am_Mi yX0_turnAhead cX0_turnAhead 4 (some .int) 0 0 [am_r (.inr k) 1, am_i x1] h a h := by
  refine am_M.ofi (A := [some (am_r (.inr k) 1), some (am_i x1), none, none]) (by decide +kernel) rfl (ble rfl) (fun Q hQ => ?_)
  have H : wp (f_X0_turnAhead k x1 h) (fun a => Q (some (am_i a)) h) := ⟨_, e, hQ⟩
  unfold f_X0_turnAhead at H
  refine ar_iconst (iI (0)) dX0_turnAhead_0 rfl ?_
  refine rs_i2 dX0_turnAhead_1 rfl trivial ?_
  refine ar_iconst (iI (0)) dX0_turnAhead_2 rfl ?_
  refine rs_i3 dX0_turnAhead_3 rfl trivial ?_
  exact am_V.wk (am_s (am_s (am_s (am_s am_0)))) ((c_X0_turnAhead_L hk _ H) _ _ _ rfl)
noncomputable def s_X0_partsAhead (k : Nat) (h : am_H) : am_S Unit → Option (am_S Unit ⊕ Int32) := fun s => match s with
  | (4, [x1, x2, x3], [], [], ()) => if x1 ≤ x3 then (some (.inr (x2))) else (if ib x3 8 then (if ib x3 8 then (some (.inl (4, [x1, (x2 + (((h.1 (.inr k) 2 x3.toNatClampNeg) * (iI (10))) * (h.1 (.inr k) 3 x3.toNatClampNeg))), (x3 + 1)], [], [], ()))) else none) else none)
  | _ => none
noncomputable def f_X0_partsAhead_4 (k : Nat) (x1 : Int32) (x2 : Int32) (x3 : Int32) (h : am_H) : Option Int32 := lp (s_X0_partsAhead k h) (4, [x1, x2, x3], [], [], ())
theorem e_X0_partsAhead_4 (k : Nat) (x1 : Int32) (x2 : Int32) (x3 : Int32) (h : am_H) : f_X0_partsAhead_4 k x1 x2 x3 h = (if x1 ≤ x3 then (some (x2)) else (if ib x3 8 then (if ib x3 8 then (f_X0_partsAhead_4 k x1 (x2 + (((h.1 (.inr k) 2 x3.toNatClampNeg) * (iI (10))) * (h.1 (.inr k) 3 x3.toNatClampNeg))) (x3 + 1) h) else none) else none)) := by
  show lp _ _ = _
  rw [lp_eq, s_X0_partsAhead]
  simp only [lpk_i, lpk_b, lpk_l, lpk_n, lpk_j, lpk_r] <;> rfl
noncomputable def f_X0_partsAhead (k : Nat) (x1 : Int32) (h : am_H) : Option Int32 :=
  f_X0_partsAhead_4 k x1 (iI (0)) (iI (0)) h
theorem c_X0_partsAhead_L {k : Nat} (hk : k < 10) {h : am_H} {Q : Option am_v → am_H → Prop} : ∀ s, wp (lp (s_X0_partsAhead k h) s) (fun a => Q (some (am_i a)) h) → ((∀ x1 x2 x3, s = (4, [x1, x2, x3], [], [], ()) → am_V RX0 cX0_partsAhead 4 (some .int) 0 0 0 0 none (am_Tm cX0_partsAhead (some .int) Q) 0 0 4 [some (am_r (.inr k) 1), some (am_i x1), some (am_i x2), some (am_i x3)] [] h)) := by
  refine lp_ind _ _ (fun s H => fun x1 x2 x3 e => ?_)
  · subst e
    rw [s_X0_partsAhead] at H
    refine rl_i3 dX0_partsAhead_4 ?_
    refine rl_i1 dX0_partsAhead_5 ?_
    refine ar_ic_ge 34 dX0_partsAhead_6 (by decide) (fun c1 => ?_) (fun c1 => ?_)
    · replace H := wp_t c1 H
      refine rl_i2 dX0_partsAhead_34 ?_
      replace H := lp_re H
      exact ar_iret dX0_partsAhead_35 rfl rfl H
    · replace H := wp_f c1 H
      refine rl_i2 dX0_partsAhead_9 ?_
      refine rl_a0 dX0_partsAhead_10 ?_
      refine rg_R (.inr k) 2 dX0_partsAhead_11 fg_X0_9 rfl rfl rfl (ok_P hk rfl) ?_
      refine rl_i3 dX0_partsAhead_14 ?_
      obtain ⟨b1, H⟩ := wp_g H
      refine ar_iald dX0_partsAhead_15 rfl (ok_P hk rfl) (ib_in b1) ?_
      refine ar_bipush (iI (10)) dX0_partsAhead_16 rfl ?_
      refine ar_imul dX0_partsAhead_18 ?_
      refine rl_a0 dX0_partsAhead_19 ?_
      refine rg_R (.inr k) 3 dX0_partsAhead_20 fg_X0_15 rfl rfl rfl (ok_P hk rfl) ?_
      refine rl_i3 dX0_partsAhead_23 ?_
      obtain ⟨b2, H⟩ := wp_g H
      refine ar_iald dX0_partsAhead_24 rfl (ok_P hk rfl) (ib_in b2) ?_
      refine ar_imul dX0_partsAhead_25 ?_
      refine ar_iadd dX0_partsAhead_26 ?_
      refine rs_i2 dX0_partsAhead_27 rfl trivial ?_
      refine rn_1_3 dX0_partsAhead_28 rfl trivial ?_
      refine ar_goto 4 dX0_partsAhead_31 (by decide) ?_
      exact am_V.wk (am_s (am_s (am_s (am_s am_0)))) ((lp_in H) _ _ _ rfl)
theorem c_X0_partsAhead {k : Nat} (hk : k < 10) {x1 : Int32} {h : am_H} {a : Int32} (e : f_X0_partsAhead k x1 h = some a) : am_Mi yX0_partsAhead cX0_partsAhead 4 (some .int) 0 0 [am_r (.inr k) 1, am_i x1] h a h := by
  refine am_M.ofi (A := [some (am_r (.inr k) 1), some (am_i x1), none, none]) (by decide +kernel) rfl (ble rfl) (fun Q hQ => ?_)
  have H : wp (f_X0_partsAhead k x1 h) (fun a => Q (some (am_i a)) h) := ⟨_, e, hQ⟩
  unfold f_X0_partsAhead at H
  refine ar_iconst (iI (0)) dX0_partsAhead_0 rfl ?_
  refine rs_i2 dX0_partsAhead_1 rfl trivial ?_
  refine ar_iconst (iI (0)) dX0_partsAhead_2 rfl ?_
  refine rs_i3 dX0_partsAhead_3 rfl trivial ?_
  exact am_V.wk (am_s (am_s (am_s (am_s am_0)))) ((c_X0_partsAhead_L hk _ H) _ _ _ rfl)
noncomputable def f_X0_wholeTurn (k : Nat) (h : am_H) : Option Int32 :=
  (f_X0_turnAhead k (h.1 (.inr k) 1 4) h).bind (fun a1 => some (a1))
theorem c_X0_wholeTurn {k : Nat} (hk : k < 10) {h : am_H} {a : Int32} (e : f_X0_wholeTurn k h = some a) : am_Mi yX0_wholeTurn cX0_wholeTurn 1 (some .int) 1 23 [am_r (.inr k) 1] h a h := by
  refine am_M.ofi (A := [some (am_r (.inr k) 1)]) (by decide +kernel) rfl (ble rfl) (fun Q hQ => ?_)
  have H : wp (f_X0_wholeTurn k h) (fun a => Q (some (am_i a)) h) := ⟨_, e, hQ⟩
  unfold f_X0_wholeTurn at H
  refine rl_a0 dX0_wholeTurn_0 ?_
  refine rl_a0 dX0_wholeTurn_1 ?_
  refine ar_getI dX0_wholeTurn_2 fg_X0_25 rfl rfl (ok_P hk rfl) ?_
  obtain ⟨a1, e1, H⟩ := wp_b H
  refine rc_V1i dX0_wholeTurn_5 ml_X0_33 mc_X0_turnAhead (c_X0_turnAhead hk e1) rfl rfl rfl (ok_P hk rfl) rfl rfl rfl ?_
  replace H := wp_s H
  exact ar_iret dX0_wholeTurn_8 rfl rfl H
noncomputable def f_X0_wholeParts (k : Nat) (h : am_H) : Option Int32 :=
  (f_X0_partsAhead k (h.1 (.inr k) 1 4) h).bind (fun a1 => some (a1))
theorem c_X0_wholeParts {k : Nat} (hk : k < 10) {h : am_H} {a : Int32} (e : f_X0_wholeParts k h = some a) : am_Mi yX0_wholeParts cX0_wholeParts 1 (some .int) 1 23 [am_r (.inr k) 1] h a h := by
  refine am_M.ofi (A := [some (am_r (.inr k) 1)]) (by decide +kernel) rfl (ble rfl) (fun Q hQ => ?_)
  have H : wp (f_X0_wholeParts k h) (fun a => Q (some (am_i a)) h) := ⟨_, e, hQ⟩
  unfold f_X0_wholeParts at H
  refine rl_a0 dX0_wholeParts_0 ?_
  refine rl_a0 dX0_wholeParts_1 ?_
  refine ar_getI dX0_wholeParts_2 fg_X0_25 rfl rfl (ok_P hk rfl) ?_
  obtain ⟨a1, e1, H⟩ := wp_b H
  refine rc_V1i dX0_wholeParts_5 ml_X0_37 mc_X0_partsAhead (c_X0_partsAhead hk e1) rfl rfl rfl (ok_P hk rfl) rfl rfl rfl ?_
  replace H := wp_s H
  exact ar_iret dX0_wholeParts_8 rfl rfl H
noncomputable def s_X0_arcAround (k : Nat) (h : am_H) : am_S Unit → Option (am_S Unit ⊕ Int32) := fun s => match s with
  | (4, [x1, x2, x3], [], [], ()) => if (h.1 (.inr k) 1 4) ≤ x3 then (if (h.1 (.inr k) 1 4) ≤ 0 then (some (.inr ((iI (-1))))) else (some (.inr (((h.1 (.inr k) 1 4) - (iI (1))))))) else (if ib x3 8 then (if (x2 + ((iI (10)) * (h.1 (.inr k) 3 x3.toNatClampNeg))) ≤ x1 then (some (.inl (4, [x1, (x2 + ((iI (10)) * (h.1 (.inr k) 3 x3.toNatClampNeg))), (x3 + 1)], [], [], ()))) else (some (.inr (x3)))) else none)
  | _ => none
noncomputable def f_X0_arcAround_4 (k : Nat) (x1 : Int32) (x2 : Int32) (x3 : Int32) (h : am_H) : Option Int32 := lp (s_X0_arcAround k h) (4, [x1, x2, x3], [], [], ())
theorem e_X0_arcAround_4 (k : Nat) (x1 : Int32) (x2 : Int32) (x3 : Int32) (h : am_H) : f_X0_arcAround_4 k x1 x2 x3 h = (if (h.1 (.inr k) 1 4) ≤ x3 then (if (h.1 (.inr k) 1 4) ≤ 0 then (some ((iI (-1)))) else (some (((h.1 (.inr k) 1 4) - (iI (1)))))) else (if ib x3 8 then (if (x2 + ((iI (10)) * (h.1 (.inr k) 3 x3.toNatClampNeg))) ≤ x1 then (f_X0_arcAround_4 k x1 (x2 + ((iI (10)) * (h.1 (.inr k) 3 x3.toNatClampNeg))) (x3 + 1) h) else (some (x3))) else none)) := by
  show lp _ _ = _
  rw [lp_eq, s_X0_arcAround]
  simp only [lpk_i, lpk_b, lpk_l, lpk_n, lpk_j, lpk_r] <;> rfl
noncomputable def f_X0_arcAround (k : Nat) (x1 : Int32) (h : am_H) : Option Int32 :=
  f_X0_arcAround_4 k x1 (iI (0)) (iI (0)) h
theorem c_X0_arcAround_L {k : Nat} (hk : k < 10) {h : am_H} {Q : Option am_v → am_H → Prop} : ∀ s, wp (lp (s_X0_arcAround k h) s) (fun a => Q (some (am_i a)) h) → ((∀ x1 x2 x3, s = (4, [x1, x2, x3], [], [], ()) → am_V RX0 cX0_arcAround 4 (some .int) 0 0 0 0 none (am_Tm cX0_arcAround (some .int) Q) 0 0 4 [some (am_r (.inr k) 1), some (am_i x1), some (am_i x2), some (am_i x3)] [] h)) := by
  refine lp_ind _ _ (fun s H => fun x1 x2 x3 e => ?_)
  · subst e
    rw [s_X0_arcAround] at H
    refine rl_i3 dX0_arcAround_4 ?_
    refine rl_a0 dX0_arcAround_5 ?_
    refine ar_getI dX0_arcAround_6 fg_X0_25 rfl rfl (ok_P hk rfl) ?_
    refine ar_ic_ge 37 dX0_arcAround_9 (by decide) (fun c1 => ?_) (fun c1 => ?_)
    · replace H := wp_t c1 H
      refine rl_a0 dX0_arcAround_37 ?_
      refine ar_getI dX0_arcAround_38 fg_X0_25 rfl rfl (ok_P hk rfl) ?_
      refine ar_if_le 53 dX0_arcAround_41 (by decide) (fun c2 => ?_) (fun c2 => ?_)
      · replace H := wp_t c2 H
        refine ar_iconst (iI (-1)) dX0_arcAround_53 rfl ?_
        replace H := lp_re H
        exact ar_iret dX0_arcAround_54 rfl rfl H
      · replace H := wp_f c2 H
        refine rl_a0 dX0_arcAround_44 ?_
        refine ar_getI dX0_arcAround_45 fg_X0_25 rfl rfl (ok_P hk rfl) ?_
        refine ar_iconst (iI (1)) dX0_arcAround_48 rfl ?_
        refine ar_isub dX0_arcAround_49 ?_
        refine ar_goto 54 dX0_arcAround_50 (by decide) ?_
        replace H := lp_re H
        exact ar_iret dX0_arcAround_54 rfl rfl H
    · replace H := wp_f c1 H
      refine rl_i2 dX0_arcAround_12 ?_
      refine ar_bipush (iI (10)) dX0_arcAround_13 rfl ?_
      refine rl_a0 dX0_arcAround_15 ?_
      refine rg_R (.inr k) 3 dX0_arcAround_16 fg_X0_15 rfl rfl rfl (ok_P hk rfl) ?_
      refine rl_i3 dX0_arcAround_19 ?_
      obtain ⟨b1, H⟩ := wp_g H
      refine ar_iald dX0_arcAround_20 rfl (ok_P hk rfl) (ib_in b1) ?_
      refine ar_imul dX0_arcAround_21 ?_
      refine ar_iadd dX0_arcAround_22 ?_
      refine rs_i2 dX0_arcAround_23 rfl trivial ?_
      refine rl_i2 dX0_arcAround_24 ?_
      refine rl_i1 dX0_arcAround_25 ?_
      refine ar_ic_le 31 dX0_arcAround_26 (by decide) (fun c2 => ?_) (fun c2 => ?_)
      · replace H := wp_t c2 H
        refine rn_1_3 dX0_arcAround_31 rfl trivial ?_
        refine ar_goto 4 dX0_arcAround_34 (by decide) ?_
        exact am_V.wk (am_s (am_s (am_s (am_s am_0)))) ((lp_in H) _ _ _ rfl)
      · replace H := wp_f c2 H
        refine rl_i3 dX0_arcAround_29 ?_
        replace H := lp_re H
        exact ar_iret dX0_arcAround_30 rfl rfl H
theorem c_X0_arcAround {k : Nat} (hk : k < 10) {x1 : Int32} {h : am_H} {a : Int32} (e : f_X0_arcAround k x1 h = some a) : am_Mi yX0_arcAround cX0_arcAround 4 (some .int) 0 0 [am_r (.inr k) 1, am_i x1] h a h := by
  refine am_M.ofi (A := [some (am_r (.inr k) 1), some (am_i x1), none, none]) (by decide +kernel) rfl (ble rfl) (fun Q hQ => ?_)
  have H : wp (f_X0_arcAround k x1 h) (fun a => Q (some (am_i a)) h) := ⟨_, e, hQ⟩
  unfold f_X0_arcAround at H
  refine ar_iconst (iI (0)) dX0_arcAround_0 rfl ?_
  refine rs_i2 dX0_arcAround_1 rfl trivial ?_
  refine ar_iconst (iI (0)) dX0_arcAround_2 rfl ?_
  refine rs_i3 dX0_arcAround_3 rfl trivial ?_
  exact am_V.wk (am_s (am_s (am_s (am_s am_0)))) ((c_X0_arcAround_L hk _ H) _ _ _ rfl)
noncomputable def f_X11_isWithin (x0 : Int32) (x1 : Int32) (x2 : Int32) : Option Int32 :=
  if x0 < x1 then (some ((iI (0)))) else (if x2 < x0 then (some ((iI (0)))) else (some ((iI (1)))))
theorem c_X11_isWithin {x0 : Int32} {x1 : Int32} {x2 : Int32} {h : am_H} {a : Int32} (e : f_X11_isWithin x0 x1 x2 = some a) : am_Mi yX11_isWithin cX11_isWithin 3 (some .boolean) 0 0 [am_i x0, am_i x1, am_i x2] h a h := by
  refine am_M.ofi (A := [some (am_i x0), some (am_i x1), some (am_i x2)]) (by decide +kernel) rfl (ble rfl) (fun Q hQ => ?_)
  have H : wp (f_X11_isWithin x0 x1 x2) (fun a => Q (some (am_i a)) h) := ⟨_, e, hQ⟩
  unfold f_X11_isWithin at H
  refine rl_i0 dX11_isWithin_0 ?_
  refine rl_i1 dX11_isWithin_1 ?_
  refine ar_ic_lt 14 dX11_isWithin_2 (by decide) (fun c1 => ?_) (fun c1 => ?_)
  · replace H := wp_t c1 H
    refine ar_iconst (iI (0)) dX11_isWithin_14 rfl ?_
    replace H := wp_s H
    exact ar_iret dX11_isWithin_15 rfl rfl H
  · replace H := wp_f c1 H
    refine rl_i0 dX11_isWithin_5 ?_
    refine rl_i2 dX11_isWithin_6 ?_
    refine ar_ic_gt 14 dX11_isWithin_7 (by decide) (fun c2 => ?_) (fun c2 => ?_)
    · replace H := wp_t c2 H
      refine ar_iconst (iI (0)) dX11_isWithin_14 rfl ?_
      replace H := wp_s H
      exact ar_iret dX11_isWithin_15 rfl rfl H
    · replace H := wp_f c2 H
      refine ar_iconst (iI (1)) dX11_isWithin_10 rfl ?_
      refine ar_goto 15 dX11_isWithin_11 (by decide) ?_
      replace H := wp_s H
      exact ar_iret dX11_isWithin_15 rfl rfl H
noncomputable def f_X0_hardnessAt (k : Nat) (x1 : Int32) (h : am_H) : Option Int32 :=
  (f_X0_arcAround k x1 h).bind (fun a1 => (f_X11_isWithin a1 (iI (0)) ((h.1 (.inr k) 1 4) - (iI (1)))).bind (fun a2 => if a2 = 0 then (some ((iI (0)))) else (if ib a1 8 then (some ((h.1 (.inr k) 4 a1.toNatClampNeg))) else none)))
theorem c_X0_hardnessAt {k : Nat} (hk : k < 10) {x1 : Int32} {h : am_H} {a : Int32} (e : f_X0_hardnessAt k x1 h = some a) : am_Mi yX0_hardnessAt cX0_hardnessAt 3 (some .int) 1 23 [am_r (.inr k) 1, am_i x1] h a h := by
  refine am_M.ofi (A := [some (am_r (.inr k) 1), some (am_i x1), none]) (by decide +kernel) rfl (ble rfl) (fun Q hQ => ?_)
  have H : wp (f_X0_hardnessAt k x1 h) (fun a => Q (some (am_i a)) h) := ⟨_, e, hQ⟩
  unfold f_X0_hardnessAt at H
  refine rl_a0 dX0_hardnessAt_0 ?_
  refine rl_i1 dX0_hardnessAt_1 ?_
  obtain ⟨a1, e1, H⟩ := wp_b H
  refine rc_V1i dX0_hardnessAt_2 ml_X0_40 mc_X0_arcAround (c_X0_arcAround hk e1) rfl rfl rfl (ok_P hk rfl) rfl rfl rfl ?_
  refine rs_i2 dX0_hardnessAt_5 rfl trivial ?_
  refine rl_i2 dX0_hardnessAt_6 ?_
  refine ar_iconst (iI (0)) dX0_hardnessAt_7 rfl ?_
  refine rl_a0 dX0_hardnessAt_8 ?_
  refine ar_getI dX0_hardnessAt_9 fg_X0_25 rfl rfl (ok_P hk rfl) ?_
  refine ar_iconst (iI (1)) dX0_hardnessAt_12 rfl ?_
  refine ar_isub dX0_hardnessAt_13 ?_
  obtain ⟨a2, e2, H⟩ := wp_b H
  refine rc_N3i dX0_hardnessAt_14 ml_X0_43 mc_X11_isWithin (c_X11_isWithin e2) rfl rfl rfl ?_
  refine ar_if_eq 29 dX0_hardnessAt_17 (by decide) (fun c1 => ?_) (fun c1 => ?_)
  · replace H := wp_t c1 H
    refine ar_iconst (iI (0)) dX0_hardnessAt_29 rfl ?_
    replace H := wp_s H
    exact ar_iret dX0_hardnessAt_30 rfl rfl H
  · replace H := wp_f c1 H
    refine rl_a0 dX0_hardnessAt_20 ?_
    refine rg_R (.inr k) 4 dX0_hardnessAt_21 fg_X0_18 rfl rfl rfl (ok_P hk rfl) ?_
    refine rl_i2 dX0_hardnessAt_24 ?_
    obtain ⟨b1, H⟩ := wp_g H
    refine ar_iald dX0_hardnessAt_25 rfl (ok_P hk rfl) (ib_in b1) ?_
    refine ar_goto 30 dX0_hardnessAt_26 (by decide) ?_
    replace H := wp_s H
    exact ar_iret dX0_hardnessAt_30 rfl rfl H
noncomputable def f_J9_min_7cf53 (x0 : Int32) (x1 : Int32) : Option Int32 :=
  if x1 < x0 then (some (x1)) else (some (x0))
theorem c_J9_min_7cf53 {x0 : Int32} {x1 : Int32} {h : am_H} {a : Int32} (e : f_J9_min_7cf53 x0 x1 = some a) : am_Mi yJ9_min_7cf53 cJ9_min_7cf53 2 (some .int) 0 0 [am_i x0, am_i x1] h a h := by
  refine am_M.ofi (A := [some (am_i x0), some (am_i x1)]) (by decide +kernel) rfl (ble rfl) (fun Q hQ => ?_)
  have H : wp (f_J9_min_7cf53 x0 x1) (fun a => Q (some (am_i a)) h) := ⟨_, e, hQ⟩
  unfold f_J9_min_7cf53 at H
  refine rl_i0 dJ9_min_7cf53_0 ?_
  refine rl_i1 dJ9_min_7cf53_1 ?_
  refine ar_ic_gt 9 dJ9_min_7cf53_2 (by decide) (fun c1 => ?_) (fun c1 => ?_)
  · replace H := wp_t c1 H
    refine rl_i1 dJ9_min_7cf53_9 ?_
    replace H := wp_s H
    exact ar_iret dJ9_min_7cf53_10 rfl rfl H
  · replace H := wp_f c1 H
    refine rl_i0 dJ9_min_7cf53_5 ?_
    refine ar_goto 10 dJ9_min_7cf53_6 (by decide) ?_
    replace H := wp_s H
    exact ar_iret dJ9_min_7cf53_10 rfl rfl H
noncomputable def s_X0_partsTo (k : Nat) (h : am_H) : am_S Unit → Option (am_S Unit ⊕ Int32) := fun s => match s with
  | (7, [x2, x3, x4], [], [], ()) => if (h.1 (.inr k) 1 4) ≤ x4 then (some (.inr (x2))) else ((f_X0_tenths k x4 h).bind (fun a1 => (f_J9_min_7cf53 x3 a1).bind (fun a2 => if ib x4 8 then (some (.inl (7, [(x2 + ((h.1 (.inr k) 2 x4.toNatClampNeg) * a2)), (x3 - a2), (x4 + 1)], [], [], ()))) else none)))
  | _ => none
noncomputable def f_X0_partsTo_7 (k : Nat) (x2 : Int32) (x3 : Int32) (x4 : Int32) (h : am_H) : Option Int32 := lp (s_X0_partsTo k h) (7, [x2, x3, x4], [], [], ())
theorem e_X0_partsTo_7 (k : Nat) (x2 : Int32) (x3 : Int32) (x4 : Int32) (h : am_H) : f_X0_partsTo_7 k x2 x3 x4 h = (if (h.1 (.inr k) 1 4) ≤ x4 then (some (x2)) else ((f_X0_tenths k x4 h).bind (fun a1 => (f_J9_min_7cf53 x3 a1).bind (fun a2 => if ib x4 8 then (f_X0_partsTo_7 k (x2 + ((h.1 (.inr k) 2 x4.toNatClampNeg) * a2)) (x3 - a2) (x4 + 1) h) else none)))) := by
  show lp _ _ = _
  rw [lp_eq, s_X0_partsTo]
  simp only [lpk_i, lpk_b, lpk_l, lpk_n, lpk_j, lpk_r] <;> rfl
noncomputable def f_X0_partsTo (k : Nat) (x1 : Int32) (h : am_H) : Option Int32 :=
  f_X0_partsTo_7 k (iI (0)) x1 (iI (0)) h
theorem c_X0_partsTo_L {k : Nat} (hk : k < 10) {h : am_H} {Q : Option am_v → am_H → Prop} : ∀ s, wp (lp (s_X0_partsTo k h) s) (fun a => Q (some (am_i a)) h) → ((∀ x2 x3 x4, s = (7, [x2, x3, x4], [], [], ()) → am_V RX0 cX0_partsTo 6 (some .int) 1 21 0 0 none (am_Tm cX0_partsTo (some .int) Q) 0 0 7 [some (am_r (.inr k) 1), none, some (am_i x2), some (am_i x3), some (am_i x4), none] [] h)) := by
  refine lp_ind _ _ (fun s H => fun x2 x3 x4 e => ?_)
  · subst e
    rw [s_X0_partsTo] at H
    refine rl_i4 dX0_partsTo_7 ?_
    refine rl_a0 dX0_partsTo_9 ?_
    refine ar_getI dX0_partsTo_10 fg_X0_25 rfl rfl (ok_P hk rfl) ?_
    refine ar_ic_ge 52 dX0_partsTo_13 (by decide) (fun c1 => ?_) (fun c1 => ?_)
    · replace H := wp_t c1 H
      refine rl_i2 dX0_partsTo_52 ?_
      replace H := lp_re H
      exact ar_iret dX0_partsTo_53 rfl rfl H
    · replace H := wp_f c1 H
      refine rl_i3 dX0_partsTo_16 ?_
      refine rl_a0 dX0_partsTo_17 ?_
      refine rl_i4 dX0_partsTo_18 ?_
      obtain ⟨a1, e1, H⟩ := wp_b H
      refine rc_V1i dX0_partsTo_20 ml_X0_47 mc_X0_tenths (c_X0_tenths hk e1) rfl rfl rfl (ok_P hk rfl) rfl rfl rfl ?_
      obtain ⟨a2, e2, H⟩ := wp_b H
      refine rc_S2i dX0_partsTo_23 ml_X0_50 mc_J9_min_7cf53 (c_J9_min_7cf53 e2) rfl rfl rfl ?_
      refine rs_i5 dX0_partsTo_26 rfl trivial ?_
      refine rl_i2 dX0_partsTo_28 ?_
      refine rl_a0 dX0_partsTo_29 ?_
      refine rg_R (.inr k) 2 dX0_partsTo_30 fg_X0_9 rfl rfl rfl (ok_P hk rfl) ?_
      refine rl_i4 dX0_partsTo_33 ?_
      obtain ⟨b1, H⟩ := wp_g H
      refine ar_iald dX0_partsTo_35 rfl (ok_P hk rfl) (ib_in b1) ?_
      refine rl_i5 dX0_partsTo_36 ?_
      refine ar_imul dX0_partsTo_38 ?_
      refine ar_iadd dX0_partsTo_39 ?_
      refine rs_i2 dX0_partsTo_40 rfl trivial ?_
      refine rl_i3 dX0_partsTo_41 ?_
      refine rl_i5 dX0_partsTo_42 ?_
      refine ar_isub dX0_partsTo_44 ?_
      refine rs_i3 dX0_partsTo_45 rfl trivial ?_
      refine rn_1_4 dX0_partsTo_46 rfl trivial ?_
      refine ar_goto 7 dX0_partsTo_49 (by decide) ?_
      exact am_V.wk (am_s (am_n (am_s (am_s (am_s (am_n am_0)))))) ((lp_in H) _ _ _ rfl)
theorem c_X0_partsTo {k : Nat} (hk : k < 10) {x1 : Int32} {h : am_H} {a : Int32} (e : f_X0_partsTo k x1 h = some a) : am_Mi yX0_partsTo cX0_partsTo 6 (some .int) 1 21 [am_r (.inr k) 1, am_i x1] h a h := by
  refine am_M.ofi (A := [some (am_r (.inr k) 1), some (am_i x1), none, none, none, none]) (by decide +kernel) rfl (ble rfl) (fun Q hQ => ?_)
  have H : wp (f_X0_partsTo k x1 h) (fun a => Q (some (am_i a)) h) := ⟨_, e, hQ⟩
  unfold f_X0_partsTo at H
  refine ar_iconst (iI (0)) dX0_partsTo_0 rfl ?_
  refine rs_i2 dX0_partsTo_1 rfl trivial ?_
  refine rl_i1 dX0_partsTo_2 ?_
  refine rs_i3 dX0_partsTo_3 rfl trivial ?_
  refine ar_iconst (iI (0)) dX0_partsTo_4 rfl ?_
  refine rs_i4 dX0_partsTo_5 rfl trivial ?_
  exact am_V.wk (am_s (am_n (am_s (am_s (am_s (am_n am_0)))))) ((c_X0_partsTo_L hk _ H) _ _ _ rfl)
noncomputable def f_J9_floorMod_7cf53 (x0 : Int32) (x1 : Int32) : Option Int32 :=
  if x1 = 0 then none else (if 0 ≤ (x0 ^^^ x1) then (some ((x0 - x0 / x1 * x1))) else (if (x0 - x0 / x1 * x1) = 0 then (some ((x0 - x0 / x1 * x1))) else (some (((x0 - x0 / x1 * x1) + x1)))))
theorem c_J9_floorMod_7cf53 {x0 : Int32} {x1 : Int32} {h : am_H} {a : Int32} (e : f_J9_floorMod_7cf53 x0 x1 = some a) : am_Mi yJ9_floorMod_7cf53 cJ9_floorMod_7cf53 3 (some .int) 0 0 [am_i x0, am_i x1] h a h := by
  refine am_M.ofi (A := [some (am_i x0), some (am_i x1), none]) (by decide +kernel) rfl (ble rfl) (fun Q hQ => ?_)
  have H : wp (f_J9_floorMod_7cf53 x0 x1) (fun a => Q (some (am_i a)) h) := ⟨_, e, hQ⟩
  unfold f_J9_floorMod_7cf53 at H
  refine rl_i0 dJ9_floorMod_7cf53_0 ?_
  refine rl_i1 dJ9_floorMod_7cf53_1 ?_
  obtain ⟨b1, H⟩ := wp_d H
  refine ar_irem dJ9_floorMod_7cf53_2 b1 ?_
  refine rs_i2 dJ9_floorMod_7cf53_3 rfl trivial ?_
  refine rl_i0 dJ9_floorMod_7cf53_4 ?_
  refine rl_i1 dJ9_floorMod_7cf53_5 ?_
  refine ar_ixor dJ9_floorMod_7cf53_6 ?_
  refine ar_if_ge 18 dJ9_floorMod_7cf53_7 (by decide) (fun c1 => ?_) (fun c1 => ?_)
  · replace H := wp_t c1 H
    refine rl_i2 dJ9_floorMod_7cf53_18 ?_
    replace H := wp_s H
    exact ar_iret dJ9_floorMod_7cf53_19 rfl rfl H
  · replace H := wp_f c1 H
    refine rl_i2 dJ9_floorMod_7cf53_10 ?_
    refine ar_if_eq 18 dJ9_floorMod_7cf53_11 (by decide) (fun c2 => ?_) (fun c2 => ?_)
    · replace H := wp_t c2 H
      refine rl_i2 dJ9_floorMod_7cf53_18 ?_
      replace H := wp_s H
      exact ar_iret dJ9_floorMod_7cf53_19 rfl rfl H
    · replace H := wp_f c2 H
      refine rl_i2 dJ9_floorMod_7cf53_14 ?_
      refine rl_i1 dJ9_floorMod_7cf53_15 ?_
      refine ar_iadd dJ9_floorMod_7cf53_16 ?_
      replace H := wp_s H
      exact ar_iret dJ9_floorMod_7cf53_17 rfl rfl H
noncomputable def s_X0_headingTo (k : Nat) (h : am_H) : am_S Unit → Option (am_S Unit ⊕ Int32) := fun s => match s with
  | (7, [x2, x3, x4], [], [], ()) => if (h.1 (.inr k) 1 4) ≤ x4 then ((f_J9_floorMod_7cf53 x2 (iI (3600))).bind (fun a1 => some (.inr (a1)))) else ((f_X0_tenths k x4 h).bind (fun a1 => (f_J9_min_7cf53 x3 a1).bind (fun a2 => if ib x4 8 then (if (h.1 (.inr k) 5 x4.toNatClampNeg) = 0 then (some (.inl (47, [x3, x4, a2, x2, a2], [], [], ()))) else (some (.inl (47, [x3, x4, a2, x2, (- a2)], [], [], ())))) else none)))
  | (47, [x3, x4, x5, y0, y1], [], [], ()) => some (.inl (7, [(y0 + y1), (x3 - x5), (x4 + 1)], [], [], ()))
  | _ => none
noncomputable def f_X0_headingTo_7 (k : Nat) (x2 : Int32) (x3 : Int32) (x4 : Int32) (h : am_H) : Option Int32 := lp (s_X0_headingTo k h) (7, [x2, x3, x4], [], [], ())
noncomputable def f_X0_headingTo_47 (k : Nat) (x3 : Int32) (x4 : Int32) (x5 : Int32) (y0 : Int32) (y1 : Int32) (h : am_H) : Option Int32 := lp (s_X0_headingTo k h) (47, [x3, x4, x5, y0, y1], [], [], ())
theorem e_X0_headingTo_7 (k : Nat) (x2 : Int32) (x3 : Int32) (x4 : Int32) (h : am_H) : f_X0_headingTo_7 k x2 x3 x4 h = (if (h.1 (.inr k) 1 4) ≤ x4 then ((f_J9_floorMod_7cf53 x2 (iI (3600))).bind (fun a1 => some (a1))) else ((f_X0_tenths k x4 h).bind (fun a1 => (f_J9_min_7cf53 x3 a1).bind (fun a2 => if ib x4 8 then (if (h.1 (.inr k) 5 x4.toNatClampNeg) = 0 then (f_X0_headingTo_47 k x3 x4 a2 x2 a2 h) else (f_X0_headingTo_47 k x3 x4 a2 x2 (- a2) h)) else none)))) := by
  show lp _ _ = _
  rw [lp_eq, s_X0_headingTo]
  simp only [lpk_i, lpk_b, lpk_l, lpk_n, lpk_j, lpk_r] <;> rfl
theorem e_X0_headingTo_47 (k : Nat) (x3 : Int32) (x4 : Int32) (x5 : Int32) (y0 : Int32) (y1 : Int32) (h : am_H) : f_X0_headingTo_47 k x3 x4 x5 y0 y1 h = (f_X0_headingTo_7 k (y0 + y1) (x3 - x5) (x4 + 1) h) := by
  show lp _ _ = _
  rw [lp_eq, s_X0_headingTo]
  simp only [lpk_i, lpk_b, lpk_l, lpk_n, lpk_j, lpk_r] <;> rfl
noncomputable def f_X0_headingTo (k : Nat) (x1 : Int32) (h : am_H) : Option Int32 :=
  f_X0_headingTo_7 k (iI (0)) x1 (iI (0)) h
theorem c_X0_headingTo_L {k : Nat} (hk : k < 10) {h : am_H} {Q : Option am_v → am_H → Prop} : ∀ s, wp (lp (s_X0_headingTo k h) s) (fun a => Q (some (am_i a)) h) → ((∀ x2 x3 x4, s = (7, [x2, x3, x4], [], [], ()) → am_V RX0 cX0_headingTo 6 (some .int) 1 22 0 0 none (am_Tm cX0_headingTo (some .int) Q) 0 0 7 [some (am_r (.inr k) 1), none, some (am_i x2), some (am_i x3), some (am_i x4), none] [] h) ∧ (∀ x3 x4 x5 y0 y1, s = (47, [x3, x4, x5, y0, y1], [], [], ()) → am_V RX0 cX0_headingTo 6 (some .int) 1 22 0 0 none (am_Tm cX0_headingTo (some .int) Q) 0 0 47 [some (am_r (.inr k) 1), none, none, some (am_i x3), some (am_i x4), some (am_i x5)] [am_i y1, am_i y0] h)) := by
  refine lp_ind _ _ (fun s H => ⟨fun x2 x3 x4 e => ?_, fun x3 x4 x5 y0 y1 e => ?_⟩)
  · subst e
    rw [s_X0_headingTo] at H
    refine rl_i4 dX0_headingTo_7 ?_
    refine rl_a0 dX0_headingTo_9 ?_
    refine ar_getI dX0_headingTo_10 fg_X0_25 rfl rfl (ok_P hk rfl) ?_
    refine ar_ic_ge 60 dX0_headingTo_13 (by decide) (fun c1 => ?_) (fun c1 => ?_)
    · replace H := wp_t c1 H
      refine rl_i2 dX0_headingTo_60 ?_
      refine ar_sipush (iI (3600)) dX0_headingTo_61 rfl ?_
      obtain ⟨a1, e1, H⟩ := wp_b H
      refine rc_S2i dX0_headingTo_64 ml_X0_56 mc_J9_floorMod_7cf53 (c_J9_floorMod_7cf53 e1) rfl rfl rfl ?_
      replace H := lp_re H
      exact ar_iret dX0_headingTo_67 rfl rfl H
    · replace H := wp_f c1 H
      refine rl_i3 dX0_headingTo_16 ?_
      refine rl_a0 dX0_headingTo_17 ?_
      refine rl_i4 dX0_headingTo_18 ?_
      obtain ⟨a1, e1, H⟩ := wp_b H
      refine rc_V1i dX0_headingTo_20 ml_X0_47 mc_X0_tenths (c_X0_tenths hk e1) rfl rfl rfl (ok_P hk rfl) rfl rfl rfl ?_
      obtain ⟨a2, e2, H⟩ := wp_b H
      refine rc_S2i dX0_headingTo_23 ml_X0_50 mc_J9_min_7cf53 (c_J9_min_7cf53 e2) rfl rfl rfl ?_
      refine rs_i5 dX0_headingTo_26 rfl trivial ?_
      refine rl_i2 dX0_headingTo_28 ?_
      refine rl_a0 dX0_headingTo_29 ?_
      refine rg_R (.inr k) 5 dX0_headingTo_30 fg_X0_21 rfl rfl rfl (ok_P hk rfl) ?_
      refine rl_i4 dX0_headingTo_33 ?_
      obtain ⟨b1, H⟩ := wp_g H
      refine ar_zald dX0_headingTo_35 rfl (ok_P hk rfl) (ib_in b1) ?_
      refine ar_if_eq 45 dX0_headingTo_36 (by decide) (fun c2 => ?_) (fun c2 => ?_)
      · replace H := wp_t c2 H
        refine rl_i5 dX0_headingTo_45 ?_
        exact am_V.wk (am_s (am_n (am_n (am_s (am_s (am_s am_0)))))) ((lp_in H).2 _ _ _ _ _ rfl)
      · replace H := wp_f c2 H
        refine rl_i5 dX0_headingTo_39 ?_
        refine ar_ineg dX0_headingTo_41 ?_
        refine ar_goto 47 dX0_headingTo_42 (by decide) ?_
        exact am_V.wk (am_s (am_n (am_n (am_s (am_s (am_s am_0)))))) ((lp_in H).2 _ _ _ _ _ rfl)
  · subst e
    rw [s_X0_headingTo] at H
    refine ar_iadd dX0_headingTo_47 ?_
    refine rs_i2 dX0_headingTo_48 rfl trivial ?_
    refine rl_i3 dX0_headingTo_49 ?_
    refine rl_i5 dX0_headingTo_50 ?_
    refine ar_isub dX0_headingTo_52 ?_
    refine rs_i3 dX0_headingTo_53 rfl trivial ?_
    refine rn_1_4 dX0_headingTo_54 rfl trivial ?_
    refine ar_goto 7 dX0_headingTo_57 (by decide) ?_
    exact am_V.wk (am_s (am_n (am_s (am_s (am_s (am_n am_0)))))) ((lp_in H).1 _ _ _ rfl)
theorem c_X0_headingTo {k : Nat} (hk : k < 10) {x1 : Int32} {h : am_H} {a : Int32} (e : f_X0_headingTo k x1 h = some a) : am_Mi yX0_headingTo cX0_headingTo 6 (some .int) 1 22 [am_r (.inr k) 1, am_i x1] h a h := by
  refine am_M.ofi (A := [some (am_r (.inr k) 1), some (am_i x1), none, none, none, none]) (by decide +kernel) rfl (ble rfl) (fun Q hQ => ?_)
  have H : wp (f_X0_headingTo k x1 h) (fun a => Q (some (am_i a)) h) := ⟨_, e, hQ⟩
  unfold f_X0_headingTo at H
  refine ar_iconst (iI (0)) dX0_headingTo_0 rfl ?_
  refine rs_i2 dX0_headingTo_1 rfl trivial ?_
  refine rl_i1 dX0_headingTo_2 ?_
  refine rs_i3 dX0_headingTo_3 rfl trivial ?_
  refine ar_iconst (iI (0)) dX0_headingTo_4 rfl ?_
  refine rs_i4 dX0_headingTo_5 rfl trivial ?_
  exact am_V.wk (am_s (am_n (am_s (am_s (am_s (am_n am_0)))))) ((c_X0_headingTo_L hk _ H).1 _ _ _ rfl)
noncomputable def f_X1_clear (g : am_G) (o : Nat) (h : am_H) : Option am_H :=
  am_lt (am_u h g o 0 (iI (50))) (fun h1 => am_lt (am_u h1 g o 1 (iI (1))) (fun h2 => am_lt (am_u h2 g o 2 (iI (0))) (fun h3 => am_lt (am_u h3 g o 3 (iI (0))) (fun h4 => some (h4)))))
theorem c_X1_clear {g : am_G} {o : Nat} (hs : am_shp g o = .inl 1) (hv : am_ok g o) {h : am_H} {a : am_H} (e : f_X1_clear g o h = some a) : am_Mv yX1_clear cX1_clear 1 (none) 0 0 [am_r g o] h a := by
  refine am_M.ofv (A := [some (am_r g o)]) (by decide +kernel) rfl (ble rfl) (fun Q hQ => ?_)
  have H : wp (f_X1_clear g o h) (fun a => Q none a) := ⟨_, e, hQ⟩
  unfold f_X1_clear at H
  refine rl_a0 dX1_clear_0 ?_
  refine ar_bipush (iI (50)) dX1_clear_1 rfl ?_
  refine ar_putI dX1_clear_3 fg_X1_11 hs rfl hv rfl rfl ?_
  replace H := wp_l H
  generalize am_u h g o 0 (iI (50)) = h1 at H ⊢
  refine rl_a0 dX1_clear_6 ?_
  refine ar_iconst (iI (1)) dX1_clear_7 rfl ?_
  refine ar_putI dX1_clear_8 fg_X1_15 hs rfl hv rfl rfl ?_
  replace H := wp_l H
  generalize am_u h1 g o 1 (iI (1)) = h2 at H ⊢
  refine rl_a0 dX1_clear_11 ?_
  refine ar_iconst (iI (0)) dX1_clear_12 rfl ?_
  refine ar_putI dX1_clear_13 fg_X1_18 hs rfl hv rfl rfl ?_
  replace H := wp_l H
  generalize am_u h2 g o 2 (iI (0)) = h3 at H ⊢
  refine rl_a0 dX1_clear_16 ?_
  refine ar_iconst (iI (0)) dX1_clear_17 rfl ?_
  refine ar_putI dX1_clear_18 fg_X1_21 hs rfl hv rfl rfl ?_
  replace H := wp_l H
  generalize am_u h3 g o 3 (iI (0)) = h4 at H ⊢
  replace H := wp_s H
  exact ar_vret dX1_clear_21 rfl H
noncomputable def f_X1_copyFrom (g : am_G) (o : Nat) (g2 : am_G) (o2 : Nat) (h : am_H) : Option am_H :=
  am_lt (am_u h g o 0 (h.1 g2 o2 0)) (fun h1 => am_lt (am_u h1 g o 1 (h1.1 g2 o2 1)) (fun h2 => am_lt (am_u h2 g o 2 (h2.1 g2 o2 2)) (fun h3 => am_lt (am_u h3 g o 3 (h3.1 g2 o2 3)) (fun h4 => some (h4)))))
theorem c_X1_copyFrom {g : am_G} {o : Nat} (hs : am_shp g o = .inl 1) (hv : am_ok g o) {g2 : am_G} {o2 : Nat} (hs2 : am_shp g2 o2 = .inl 1) (hv2 : am_ok g2 o2) {h : am_H} {a : am_H} (e : f_X1_copyFrom g o g2 o2 h = some a) : am_Mv yX1_copyFrom cX1_copyFrom 2 (none) 0 0 [am_r g o, am_r g2 o2] h a := by
  refine am_M.ofv (A := [some (am_r g o), some (am_r g2 o2)]) (by decide +kernel) rfl (ble rfl) (fun Q hQ => ?_)
  have H : wp (f_X1_copyFrom g o g2 o2 h) (fun a => Q none a) := ⟨_, e, hQ⟩
  unfold f_X1_copyFrom at H
  refine rl_a0 dX1_copyFrom_0 ?_
  refine rl_a1 dX1_copyFrom_1 ?_
  refine ar_getI dX1_copyFrom_2 fg_X1_11 hs2 rfl hv2 ?_
  refine ar_putI dX1_copyFrom_5 fg_X1_11 hs rfl hv rfl rfl ?_
  replace H := wp_l H
  generalize am_u h g o 0 (h.1 g2 o2 0) = h1 at H ⊢
  refine rl_a0 dX1_copyFrom_8 ?_
  refine rl_a1 dX1_copyFrom_9 ?_
  refine ar_getI dX1_copyFrom_10 fg_X1_15 hs2 rfl hv2 ?_
  refine ar_putI dX1_copyFrom_13 fg_X1_15 hs rfl hv rfl rfl ?_
  replace H := wp_l H
  generalize am_u h1 g o 1 (h1.1 g2 o2 1) = h2 at H ⊢
  refine rl_a0 dX1_copyFrom_16 ?_
  refine rl_a1 dX1_copyFrom_17 ?_
  refine ar_getI dX1_copyFrom_18 fg_X1_18 hs2 rfl hv2 ?_
  refine ar_putI dX1_copyFrom_21 fg_X1_18 hs rfl hv rfl rfl ?_
  replace H := wp_l H
  generalize am_u h2 g o 2 (h2.1 g2 o2 2) = h3 at H ⊢
  refine rl_a0 dX1_copyFrom_24 ?_
  refine rl_a1 dX1_copyFrom_25 ?_
  refine ar_getI dX1_copyFrom_26 fg_X1_21 hs2 rfl hv2 ?_
  refine ar_putI dX1_copyFrom_29 fg_X1_21 hs rfl hv rfl rfl ?_
  replace H := wp_l H
  generalize am_u h3 g o 3 (h3.1 g2 o2 3) = h4 at H ⊢
  replace H := wp_s H
  exact ar_vret dX1_copyFrom_32 rfl H
noncomputable def f_X1_canSharpenBy (x0 : Int32) : Option Int32 :=
  (f_X11_isWithin x0 (iI (1)) (iI (99))).bind (fun a1 => if zb a1 then (some (a1)) else none)
theorem c_X1_canSharpenBy {x0 : Int32} {h : am_H} {a : Int32} (e : f_X1_canSharpenBy x0 = some a) : am_Mi yX1_canSharpenBy cX1_canSharpenBy 1 (some .boolean) 1 22 [am_i x0] h a h := by
  refine am_M.ofi (A := [some (am_i x0)]) (by decide +kernel) rfl (ble rfl) (fun Q hQ => ?_)
  have H : wp (f_X1_canSharpenBy x0) (fun a => Q (some (am_i a)) h) := ⟨_, e, hQ⟩
  unfold f_X1_canSharpenBy at H
  refine rl_i0 dX1_canSharpenBy_0 ?_
  refine ar_iconst (iI (1)) dX1_canSharpenBy_1 rfl ?_
  refine ar_bipush (iI (99)) dX1_canSharpenBy_2 rfl ?_
  obtain ⟨a1, e1, H⟩ := wp_b H
  refine rc_N3i dX1_canSharpenBy_4 ml_X1_24 mc_X11_isWithin (c_X11_isWithin e1) rfl rfl rfl ?_
  obtain ⟨b1, H⟩ := wp_g H
  replace H := wp_s H
  exact ar_iret dX1_canSharpenBy_7 rfl (zb_n b1) H
noncomputable def f_X1_sharpenBy (g : am_G) (o : Nat) (x1 : Int32) (h : am_H) : Option (Int32 × am_H) :=
  (f_J9_min_7cf53 (iI (99)) ((h.1 g o 0) + x1)).bind (fun a1 => am_lt (am_u h g o 0 a1) (fun h1 => some (((h1.1 g o 0), h1))))
theorem c_X1_sharpenBy {g : am_G} {o : Nat} (hs : am_shp g o = .inl 1) (hv : am_ok g o) {x1 : Int32} {h : am_H} {a : Int32 × am_H} (e : f_X1_sharpenBy g o x1 h = some a) : am_Mi yX1_sharpenBy cX1_sharpenBy 2 (some .int) 1 21 [am_r g o, am_i x1] h a.1 a.2 := by
  refine am_M.ofi (A := [some (am_r g o), some (am_i x1)]) (by decide +kernel) rfl (ble rfl) (fun Q hQ => ?_)
  have H : wp (f_X1_sharpenBy g o x1 h) (fun a => Q (some (am_i a.1)) a.2) := ⟨_, e, hQ⟩
  unfold f_X1_sharpenBy at H
  refine rl_a0 dX1_sharpenBy_0 ?_
  refine ar_bipush (iI (99)) dX1_sharpenBy_1 rfl ?_
  refine rl_a0 dX1_sharpenBy_3 ?_
  refine ar_getI dX1_sharpenBy_4 fg_X1_11 hs rfl hv ?_
  refine rl_i1 dX1_sharpenBy_7 ?_
  refine ar_iadd dX1_sharpenBy_8 ?_
  obtain ⟨a1, e1, H⟩ := wp_b H
  refine rc_S2i dX1_sharpenBy_9 ml_X1_28 mc_J9_min_7cf53 (c_J9_min_7cf53 e1) rfl rfl rfl ?_
  refine ar_putI dX1_sharpenBy_12 fg_X1_11 hs rfl hv rfl rfl ?_
  replace H := wp_l H
  generalize am_u h g o 0 a1 = h1 at H ⊢
  refine rl_a0 dX1_sharpenBy_15 ?_
  refine ar_getI dX1_sharpenBy_16 fg_X1_11 hs rfl hv ?_
  replace H := wp_s H
  exact ar_iret dX1_sharpenBy_19 rfl rfl H
noncomputable def f_X1_nextBits (g : am_G) (o : Nat) (h : am_H) : Option (Int32 × am_H) :=
  am_lt (am_u h g o 1 (((h.1 g o 1) * (1103515245 : Int32)) + (iI (12345)))) (fun h1 => some (((((h1.1 g o 1).toUInt32 >>> ((iI (16)).toUInt32 &&& Int32.toUInt32 31)).toInt32), h1)))
theorem c_X1_nextBits {g : am_G} {o : Nat} (hs : am_shp g o = .inl 1) (hv : am_ok g o) {h : am_H} {a : Int32 × am_H} (e : f_X1_nextBits g o h = some a) : am_Mi yX1_nextBits cX1_nextBits 1 (some .int) 0 0 [am_r g o] h a.1 a.2 := by
  refine am_M.ofi (A := [some (am_r g o)]) (by decide +kernel) rfl (ble rfl) (fun Q hQ => ?_)
  have H : wp (f_X1_nextBits g o h) (fun a => Q (some (am_i a.1)) a.2) := ⟨_, e, hQ⟩
  unfold f_X1_nextBits at H
  refine rl_a0 dX1_nextBits_0 ?_
  refine rl_a0 dX1_nextBits_1 ?_
  refine ar_getI dX1_nextBits_2 fg_X1_15 hs rfl hv ?_
  refine ar_ldc (1103515245) dX1_nextBits_5 kc_X1_41 ?_
  refine ar_imul dX1_nextBits_7 ?_
  refine ar_sipush (iI (12345)) dX1_nextBits_8 rfl ?_
  refine ar_iadd dX1_nextBits_11 ?_
  refine ar_putI dX1_nextBits_12 fg_X1_15 hs rfl hv rfl rfl ?_
  replace H := wp_l H
  generalize am_u h g o 1 (((h.1 g o 1) * (1103515245 : Int32)) + (iI (12345))) = h1 at H ⊢
  refine rl_a0 dX1_nextBits_15 ?_
  refine ar_getI dX1_nextBits_16 fg_X1_15 hs rfl hv ?_
  refine ar_bipush (iI (16)) dX1_nextBits_19 rfl ?_
  refine ar_iushr dX1_nextBits_21 ?_
  replace H := wp_s H
  exact ar_iret dX1_nextBits_22 rfl rfl H
noncomputable def f_J9_max_7cf53 (x0 : Int32) (x1 : Int32) : Option Int32 :=
  if x0 < x1 then (some (x1)) else (some (x0))
theorem c_J9_max_7cf53 {x0 : Int32} {x1 : Int32} {h : am_H} {a : Int32} (e : f_J9_max_7cf53 x0 x1 = some a) : am_Mi yJ9_max_7cf53 cJ9_max_7cf53 2 (some .int) 0 0 [am_i x0, am_i x1] h a h := by
  refine am_M.ofi (A := [some (am_i x0), some (am_i x1)]) (by decide +kernel) rfl (ble rfl) (fun Q hQ => ?_)
  have H : wp (f_J9_max_7cf53 x0 x1) (fun a => Q (some (am_i a)) h) := ⟨_, e, hQ⟩
  unfold f_J9_max_7cf53 at H
  refine rl_i0 dJ9_max_7cf53_0 ?_
  refine rl_i1 dJ9_max_7cf53_1 ?_
  refine ar_ic_lt 9 dJ9_max_7cf53_2 (by decide) (fun c1 => ?_) (fun c1 => ?_)
  · replace H := wp_t c1 H
    refine rl_i1 dJ9_max_7cf53_9 ?_
    replace H := wp_s H
    exact ar_iret dJ9_max_7cf53_10 rfl rfl H
  · replace H := wp_f c1 H
    refine rl_i0 dJ9_max_7cf53_5 ?_
    refine ar_goto 10 dJ9_max_7cf53_6 (by decide) ?_
    replace H := wp_s H
    exact ar_iret dJ9_max_7cf53_10 rfl rfl H
noncomputable def f_X1_reachOfStroke_51 (g : am_G) (o : Nat) (x2 : Int32) (h : am_H) : Option (Int32 × am_H) :=
  (f_J9_max_7cf53 (iI (0)) ((h.1 g o 0) - (iI (1)))).bind (fun a1 => am_lt (am_u h g o 0 a1) (fun h1 => am_lt (am_u h1 g o 3 ((h1.1 g o 3) + (iI (1)))) (fun h2 => some ((x2, h2)))))
noncomputable def f_X1_reachOfStroke (g : am_G) (o : Nat) (x1 : Int32) (h : am_H) : Option (Int32 × am_H) :=
  if x1 ≤ (h.1 g o 0) then (f_X1_reachOfStroke_51 g o (iI (0)) h) else ((f_X1_nextBits g o h).bind (fun a1 => if (iI (100)) = 0 then none else (if ((iI (2)) * (x1 - (a1.2.1 g o 0))) ≤ (a1.1 - a1.1 / (iI (100)) * (iI (100))) then (f_X1_reachOfStroke_51 g o (iI (0)) a1.2) else ((f_X1_nextBits g o a1.2).bind (fun a2 => if (iI (20)) = 0 then none else (am_lt (am_u a2.2 g o 2 ((a2.2.1 g o 2) + (iI (1)))) (fun h1 => f_X1_reachOfStroke_51 g o ((iI (100)) * ((iI (1)) + (a2.1 - a2.1 / (iI (20)) * (iI (20))))) h1)))))))
theorem c_X1_reachOfStroke_51 {g : am_G} {o : Nat} (hs : am_shp g o = .inl 1) (hv : am_ok g o) {x2 : Int32} {h : am_H} {Q : Option am_v → am_H → Prop} (H : wp (f_X1_reachOfStroke_51 g o x2 h) (fun a => Q (some (am_i a.1)) a.2)) : am_V RX1 cX1_reachOfStroke 3 (some .int) 1 21 0 0 none (am_Tm cX1_reachOfStroke (some .int) Q) 0 0 51 [some (am_r g o), none, some (am_i x2)] [] h := by
  unfold f_X1_reachOfStroke_51 at H
  refine rl_a0 dX1_reachOfStroke_51 ?_
  refine ar_iconst (iI (0)) dX1_reachOfStroke_52 rfl ?_
  refine rl_a0 dX1_reachOfStroke_53 ?_
  refine ar_getI dX1_reachOfStroke_54 fg_X1_11 hs rfl hv ?_
  refine ar_iconst (iI (1)) dX1_reachOfStroke_57 rfl ?_
  refine ar_isub dX1_reachOfStroke_58 ?_
  obtain ⟨a1, e1, H⟩ := wp_b H
  refine rc_S2i dX1_reachOfStroke_59 ml_X1_38 mc_J9_max_7cf53 (c_J9_max_7cf53 e1) rfl rfl rfl ?_
  refine ar_putI dX1_reachOfStroke_62 fg_X1_11 hs rfl hv rfl rfl ?_
  replace H := wp_l H
  generalize am_u h g o 0 a1 = h1 at H ⊢
  refine rl_a0 dX1_reachOfStroke_65 ?_
  refine ar_dup dX1_reachOfStroke_66 trivial ?_
  refine ar_getI dX1_reachOfStroke_67 fg_X1_21 hs rfl hv ?_
  refine ar_iconst (iI (1)) dX1_reachOfStroke_70 rfl ?_
  refine ar_iadd dX1_reachOfStroke_71 ?_
  refine ar_putI dX1_reachOfStroke_72 fg_X1_21 hs rfl hv rfl rfl ?_
  replace H := wp_l H
  generalize am_u h1 g o 3 ((h1.1 g o 3) + (iI (1))) = h2 at H ⊢
  refine rl_i2 dX1_reachOfStroke_75 ?_
  replace H := wp_s H
  exact ar_iret dX1_reachOfStroke_76 rfl rfl H
theorem c_X1_reachOfStroke {g : am_G} {o : Nat} (hs : am_shp g o = .inl 1) (hv : am_ok g o) {x1 : Int32} {h : am_H} {a : Int32 × am_H} (e : f_X1_reachOfStroke g o x1 h = some a) : am_Mi yX1_reachOfStroke cX1_reachOfStroke 3 (some .int) 1 21 [am_r g o, am_i x1] h a.1 a.2 := by
  refine am_M.ofi (A := [some (am_r g o), some (am_i x1), none]) (by decide +kernel) rfl (ble rfl) (fun Q hQ => ?_)
  have H : wp (f_X1_reachOfStroke g o x1 h) (fun a => Q (some (am_i a.1)) a.2) := ⟨_, e, hQ⟩
  unfold f_X1_reachOfStroke at H
  refine ar_iconst (iI (0)) dX1_reachOfStroke_0 rfl ?_
  refine rs_i2 dX1_reachOfStroke_1 rfl trivial ?_
  refine rl_a0 dX1_reachOfStroke_2 ?_
  refine ar_getI dX1_reachOfStroke_3 fg_X1_11 hs rfl hv ?_
  refine rl_i1 dX1_reachOfStroke_6 ?_
  refine ar_ic_ge 51 dX1_reachOfStroke_7 (by decide) (fun c1 => ?_) (fun c1 => ?_)
  · replace H := wp_t c1 H
    exact am_V.wk (am_s (am_n (am_s am_0))) (c_X1_reachOfStroke_51 hs hv H)
  · replace H := wp_f c1 H
    refine rl_a0 dX1_reachOfStroke_10 ?_
    obtain ⟨a1, e1, H⟩ := wp_b H
    refine rc_V0i dX1_reachOfStroke_11 ml_X1_34 mc_X1_nextBits (c_X1_nextBits hs hv e1) hs rfl rfl hv rfl rfl rfl ?_
    refine ar_bipush (iI (100)) dX1_reachOfStroke_14 rfl ?_
    obtain ⟨b1, H⟩ := wp_d H
    refine ar_irem dX1_reachOfStroke_16 b1 ?_
    refine ar_iconst (iI (2)) dX1_reachOfStroke_17 rfl ?_
    refine rl_i1 dX1_reachOfStroke_18 ?_
    refine rl_a0 dX1_reachOfStroke_19 ?_
    refine ar_getI dX1_reachOfStroke_20 fg_X1_11 hs rfl hv ?_
    refine ar_isub dX1_reachOfStroke_23 ?_
    refine ar_imul dX1_reachOfStroke_24 ?_
    refine ar_ic_ge 51 dX1_reachOfStroke_25 (by decide) (fun c2 => ?_) (fun c2 => ?_)
    · replace H := wp_t c2 H
      exact am_V.wk (am_s (am_n (am_s am_0))) (c_X1_reachOfStroke_51 hs hv H)
    · replace H := wp_f c2 H
      refine ar_bipush (iI (100)) dX1_reachOfStroke_28 rfl ?_
      refine ar_iconst (iI (1)) dX1_reachOfStroke_30 rfl ?_
      refine rl_a0 dX1_reachOfStroke_31 ?_
      obtain ⟨a2, e2, H⟩ := wp_b H
      refine rc_V0i dX1_reachOfStroke_32 ml_X1_34 mc_X1_nextBits (c_X1_nextBits hs hv e2) hs rfl rfl hv rfl rfl rfl ?_
      refine ar_bipush (iI (20)) dX1_reachOfStroke_35 rfl ?_
      obtain ⟨b2, H⟩ := wp_d H
      refine ar_irem dX1_reachOfStroke_37 b2 ?_
      refine ar_iadd dX1_reachOfStroke_38 ?_
      refine ar_imul dX1_reachOfStroke_39 ?_
      refine rs_i2 dX1_reachOfStroke_40 rfl trivial ?_
      refine rl_a0 dX1_reachOfStroke_41 ?_
      refine ar_dup dX1_reachOfStroke_42 trivial ?_
      refine ar_getI dX1_reachOfStroke_43 fg_X1_18 hs rfl hv ?_
      refine ar_iconst (iI (1)) dX1_reachOfStroke_46 rfl ?_
      refine ar_iadd dX1_reachOfStroke_47 ?_
      refine ar_putI dX1_reachOfStroke_48 fg_X1_18 hs rfl hv rfl rfl ?_
      replace H := wp_l H
      generalize am_u a2.2 g o 2 ((a2.2.1 g o 2) + (iI (1))) = h1 at H ⊢
      exact am_V.wk (am_s (am_n (am_s am_0))) (c_X1_reachOfStroke_51 hs hv H)
noncomputable def f_X11_isPlace (x0 : Int32) : Option Int32 :=
  (f_X11_isWithin x0 (iI (0)) (iI (25))).bind (fun a1 => if zb a1 then (some (a1)) else none)
theorem c_X11_isPlace {x0 : Int32} {h : am_H} {a : Int32} (e : f_X11_isPlace x0 = some a) : am_Mi yX11_isPlace cX11_isPlace 1 (some .boolean) 1 22 [am_i x0] h a h := by
  refine am_M.ofi (A := [some (am_i x0)]) (by decide +kernel) rfl (ble rfl) (fun Q hQ => ?_)
  have H : wp (f_X11_isPlace x0) (fun a => Q (some (am_i a)) h) := ⟨_, e, hQ⟩
  unfold f_X11_isPlace at H
  refine rl_i0 dX11_isPlace_0 ?_
  refine ar_iconst (iI (0)) dX11_isPlace_1 rfl ?_
  refine ar_bipush (iI (25)) dX11_isPlace_2 rfl ?_
  obtain ⟨a1, e1, H⟩ := wp_b H
  refine rc_S3i dX11_isPlace_4 ml_X11_86 mc_X11_isWithin (c_X11_isWithin e1) rfl rfl rfl ?_
  obtain ⟨b1, H⟩ := wp_g H
  replace H := wp_s H
  exact ar_iret dX11_isPlace_7 rfl (zb_n b1) H
noncomputable def s_X7_copyFrom (k : Nat) (k2 : Nat) : am_S am_H → Option (am_S am_H ⊕ am_H) := fun s => match s with
  | (10, [x2], [], [], h) => if (h.1 (.inr k) 17 2) ≤ x2 then (some (.inr (h))) else (if ib x2 44 then (if ib x2 44 then (am_lt (am_u h (.inr k) 18 x2.toNatClampNeg (h.1 (.inr k2) 18 x2.toNatClampNeg)) (fun h1 => if ib x2 44 then (if ib x2 44 then (am_lt (am_u h1 (.inr k) 19 x2.toNatClampNeg (h1.1 (.inr k2) 19 x2.toNatClampNeg)) (fun h2 => some (.inl (10, [(x2 + 1)], [], [], h2)))) else none) else none)) else none) else none)
  | _ => none
noncomputable def f_X7_copyFrom_10 (k : Nat) (k2 : Nat) (x2 : Int32) (h : am_H) : Option am_H := lp (s_X7_copyFrom k k2) (10, [x2], [], [], h)
theorem e_X7_copyFrom_10 (k : Nat) (k2 : Nat) (x2 : Int32) (h : am_H) : f_X7_copyFrom_10 k k2 x2 h = (if (h.1 (.inr k) 17 2) ≤ x2 then (some (h)) else (if ib x2 44 then (if ib x2 44 then (am_lt (am_u h (.inr k) 18 x2.toNatClampNeg (h.1 (.inr k2) 18 x2.toNatClampNeg)) (fun h1 => if ib x2 44 then (if ib x2 44 then (am_lt (am_u h1 (.inr k) 19 x2.toNatClampNeg (h1.1 (.inr k2) 19 x2.toNatClampNeg)) (fun h2 => f_X7_copyFrom_10 k k2 (x2 + 1) h2)) else none) else none)) else none) else none)) := by
  show lp _ _ = _
  rw [lp_eq, s_X7_copyFrom]
  simp only [lpk_i, lpk_b, lpk_l, lpk_n, lpk_j, lpk_r] <;> rfl
noncomputable def f_X7_copyFrom (k : Nat) (k2 : Nat) (h : am_H) : Option am_H :=
  am_lt (am_u h (.inr k) 17 2 (h.1 (.inr k2) 17 2)) (fun h1 => f_X7_copyFrom_10 k k2 (iI (0)) h1)
theorem c_X7_copyFrom_L {k : Nat} (hk : k < 10) {k2 : Nat} (hk2 : k2 < 10) {Q : Option am_v → am_H → Prop} : ∀ s, wp (lp (s_X7_copyFrom k k2) s) (fun a => Q none a) → ((∀ x2 h, s = (10, [x2], [], [], h) → am_V RX7 cX7_copyFrom 3 (none) 0 0 0 0 none (am_Tm cX7_copyFrom (none) Q) 0 0 10 [some (am_r (.inr k) 17), some (am_r (.inr k2) 17), some (am_i x2)] [] h)) := by
  refine lp_ind _ _ (fun s H => fun x2 h e => ?_)
  · subst e
    rw [s_X7_copyFrom] at H
    refine rl_i2 dX7_copyFrom_10 ?_
    refine rl_a0 dX7_copyFrom_11 ?_
    refine ar_getI dX7_copyFrom_12 fg_X7_18 rfl rfl (ok_P hk rfl) ?_
    refine ar_ic_ge 48 dX7_copyFrom_15 (by decide) (fun c1 => ?_) (fun c1 => ?_)
    · replace H := wp_t c1 H
      replace H := lp_re H
      exact ar_vret dX7_copyFrom_48 rfl H
    · replace H := wp_f c1 H
      refine rl_a0 dX7_copyFrom_18 ?_
      refine rg_R (.inr k) 18 dX7_copyFrom_19 fg_X7_9 rfl rfl rfl (ok_P hk rfl) ?_
      refine rl_i2 dX7_copyFrom_22 ?_
      refine rl_a1 dX7_copyFrom_23 ?_
      refine rg_R (.inr k2) 18 dX7_copyFrom_24 fg_X7_9 rfl rfl rfl (ok_P hk2 rfl) ?_
      refine rl_i2 dX7_copyFrom_27 ?_
      obtain ⟨b1, H⟩ := wp_g H
      refine ar_iald dX7_copyFrom_28 rfl (ok_P hk2 rfl) (ib_in b1) ?_
      obtain ⟨b2, H⟩ := wp_g H
      refine ar_iast dX7_copyFrom_29 rfl (ok_P hk rfl) (ib_in b2) ?_
      replace H := wp_l H
      generalize am_u h (.inr k) 18 x2.toNatClampNeg (h.1 (.inr k2) 18 x2.toNatClampNeg) = h1 at H ⊢
      refine rl_a0 dX7_copyFrom_30 ?_
      refine rg_R (.inr k) 19 dX7_copyFrom_31 fg_X7_15 rfl rfl rfl (ok_P hk rfl) ?_
      refine rl_i2 dX7_copyFrom_34 ?_
      refine rl_a1 dX7_copyFrom_35 ?_
      refine rg_R (.inr k2) 19 dX7_copyFrom_36 fg_X7_15 rfl rfl rfl (ok_P hk2 rfl) ?_
      refine rl_i2 dX7_copyFrom_39 ?_
      obtain ⟨b3, H⟩ := wp_g H
      refine ar_iald dX7_copyFrom_40 rfl (ok_P hk2 rfl) (ib_in b3) ?_
      obtain ⟨b4, H⟩ := wp_g H
      refine ar_iast dX7_copyFrom_41 rfl (ok_P hk rfl) (ib_in b4) ?_
      replace H := wp_l H
      generalize am_u h1 (.inr k) 19 x2.toNatClampNeg (h1.1 (.inr k2) 19 x2.toNatClampNeg) = h2 at H ⊢
      refine rn_1_2 dX7_copyFrom_42 rfl trivial ?_
      refine ar_goto 10 dX7_copyFrom_45 (by decide) ?_
      exact am_V.wk (am_s (am_s (am_s am_0))) ((lp_in H) _ _ rfl)
theorem c_X7_copyFrom {k : Nat} (hk : k < 10) {k2 : Nat} (hk2 : k2 < 10) {h : am_H} {a : am_H} (e : f_X7_copyFrom k k2 h = some a) : am_Mv yX7_copyFrom cX7_copyFrom 3 (none) 0 0 [am_r (.inr k) 17, am_r (.inr k2) 17] h a := by
  refine am_M.ofv (A := [some (am_r (.inr k) 17), some (am_r (.inr k2) 17), none]) (by decide +kernel) rfl (ble rfl) (fun Q hQ => ?_)
  have H : wp (f_X7_copyFrom k k2 h) (fun a => Q none a) := ⟨_, e, hQ⟩
  unfold f_X7_copyFrom at H
  refine rl_a0 dX7_copyFrom_0 ?_
  refine rl_a1 dX7_copyFrom_1 ?_
  refine ar_getI dX7_copyFrom_2 fg_X7_18 rfl rfl (ok_P hk2 rfl) ?_
  refine ar_putI dX7_copyFrom_5 fg_X7_18 rfl rfl (ok_P hk rfl) rfl rfl ?_
  replace H := wp_l H
  generalize am_u h (.inr k) 17 2 (h.1 (.inr k2) 17 2) = h1 at H ⊢
  refine ar_iconst (iI (0)) dX7_copyFrom_8 rfl ?_
  refine rs_i2 dX7_copyFrom_9 rfl trivial ?_
  exact am_V.wk (am_s (am_s (am_s am_0))) ((c_X7_copyFrom_L hk hk2 _ H) _ _ rfl)
noncomputable def f_X7_add (k : Nat) (x1 : Int32) (x2 : Int32) (h : am_H) : Option am_H :=
  if (iI (44)) ≤ (h.1 (.inr k) 17 2) then (some (h)) else (if ib (h.1 (.inr k) 17 2) 44 then (am_lt (am_u h (.inr k) 18 (((h.1 (.inr k) 17 2)).toNatClampNeg) x1) (fun h1 => if ib (h1.1 (.inr k) 17 2) 44 then (am_lt (am_u h1 (.inr k) 19 (((h1.1 (.inr k) 17 2)).toNatClampNeg) x2) (fun h2 => am_lt (am_u h2 (.inr k) 17 2 ((h2.1 (.inr k) 17 2) + (iI (1)))) (fun h3 => some (h3)))) else none)) else none)
theorem c_X7_add {k : Nat} (hk : k < 10) {x1 : Int32} {x2 : Int32} {h : am_H} {a : am_H} (e : f_X7_add k x1 x2 h = some a) : am_Mv yX7_add cX7_add 3 (none) 0 0 [am_r (.inr k) 17, am_i x1, am_i x2] h a := by
  refine am_M.ofv (A := [some (am_r (.inr k) 17), some (am_i x1), some (am_i x2)]) (by decide +kernel) rfl (ble rfl) (fun Q hQ => ?_)
  have H : wp (f_X7_add k x1 x2 h) (fun a => Q none a) := ⟨_, e, hQ⟩
  unfold f_X7_add at H
  refine rl_a0 dX7_add_0 ?_
  refine ar_getI dX7_add_1 fg_X7_18 rfl rfl (ok_P hk rfl) ?_
  refine ar_bipush (iI (44)) dX7_add_4 rfl ?_
  refine ar_ic_ge 39 dX7_add_6 (by decide) (fun c1 => ?_) (fun c1 => ?_)
  · replace H := wp_t c1 H
    replace H := wp_s H
    exact ar_vret dX7_add_39 rfl H
  · replace H := wp_f c1 H
    refine rl_a0 dX7_add_9 ?_
    refine rg_R (.inr k) 18 dX7_add_10 fg_X7_9 rfl rfl rfl (ok_P hk rfl) ?_
    refine rl_a0 dX7_add_13 ?_
    refine ar_getI dX7_add_14 fg_X7_18 rfl rfl (ok_P hk rfl) ?_
    refine rl_i1 dX7_add_17 ?_
    obtain ⟨b1, H⟩ := wp_g H
    refine ar_iast dX7_add_18 rfl (ok_P hk rfl) (ib_in b1) ?_
    replace H := wp_l H
    generalize am_u h (.inr k) 18 (((h.1 (.inr k) 17 2)).toNatClampNeg) x1 = h1 at H ⊢
    refine rl_a0 dX7_add_19 ?_
    refine rg_R (.inr k) 19 dX7_add_20 fg_X7_15 rfl rfl rfl (ok_P hk rfl) ?_
    refine rl_a0 dX7_add_23 ?_
    refine ar_getI dX7_add_24 fg_X7_18 rfl rfl (ok_P hk rfl) ?_
    refine rl_i2 dX7_add_27 ?_
    obtain ⟨b2, H⟩ := wp_g H
    refine ar_iast dX7_add_28 rfl (ok_P hk rfl) (ib_in b2) ?_
    replace H := wp_l H
    generalize am_u h1 (.inr k) 19 (((h1.1 (.inr k) 17 2)).toNatClampNeg) x2 = h2 at H ⊢
    refine rl_a0 dX7_add_29 ?_
    refine ar_dup dX7_add_30 trivial ?_
    refine ar_getI dX7_add_31 fg_X7_18 rfl rfl (ok_P hk rfl) ?_
    refine ar_iconst (iI (1)) dX7_add_34 rfl ?_
    refine ar_iadd dX7_add_35 ?_
    refine ar_putI dX7_add_36 fg_X7_18 rfl rfl (ok_P hk rfl) rfl rfl ?_
    replace H := wp_l H
    generalize am_u h2 (.inr k) 17 2 ((h2.1 (.inr k) 17 2) + (iI (1))) = h3 at H ⊢
    replace H := wp_s H
    exact ar_vret dX7_add_39 rfl H
noncomputable def s_X7_remove (k : Nat) : am_S am_H → Option (am_S am_H ⊕ am_H) := fun s => match s with
  | (4, [x2], [], [], h) => if (h.1 (.inr k) 17 2) ≤ x2 then (am_lt (am_u h (.inr k) 17 2 ((h.1 (.inr k) 17 2) - (iI (1)))) (fun h1 => some (.inr (h1)))) else (if ib x2 44 then (if ib (x2 - (iI (1))) 44 then (am_lt (am_u h (.inr k) 18 (((x2 - (iI (1)))).toNatClampNeg) (h.1 (.inr k) 18 x2.toNatClampNeg)) (fun h1 => if ib x2 44 then (if ib (x2 - (iI (1))) 44 then (am_lt (am_u h1 (.inr k) 19 (((x2 - (iI (1)))).toNatClampNeg) (h1.1 (.inr k) 19 x2.toNatClampNeg)) (fun h2 => some (.inl (4, [(x2 + 1)], [], [], h2)))) else none) else none)) else none) else none)
  | _ => none
noncomputable def f_X7_remove_4 (k : Nat) (x2 : Int32) (h : am_H) : Option am_H := lp (s_X7_remove k) (4, [x2], [], [], h)
theorem e_X7_remove_4 (k : Nat) (x2 : Int32) (h : am_H) : f_X7_remove_4 k x2 h = (if (h.1 (.inr k) 17 2) ≤ x2 then (am_lt (am_u h (.inr k) 17 2 ((h.1 (.inr k) 17 2) - (iI (1)))) (fun h1 => some (h1))) else (if ib x2 44 then (if ib (x2 - (iI (1))) 44 then (am_lt (am_u h (.inr k) 18 (((x2 - (iI (1)))).toNatClampNeg) (h.1 (.inr k) 18 x2.toNatClampNeg)) (fun h1 => if ib x2 44 then (if ib (x2 - (iI (1))) 44 then (am_lt (am_u h1 (.inr k) 19 (((x2 - (iI (1)))).toNatClampNeg) (h1.1 (.inr k) 19 x2.toNatClampNeg)) (fun h2 => f_X7_remove_4 k (x2 + 1) h2)) else none) else none)) else none) else none)) := by
  show lp _ _ = _
  rw [lp_eq, s_X7_remove]
  simp only [lpk_i, lpk_b, lpk_l, lpk_n, lpk_j, lpk_r] <;> rfl
noncomputable def f_X7_remove (k : Nat) (x1 : Int32) (h : am_H) : Option am_H :=
  f_X7_remove_4 k (x1 + (iI (1))) h
theorem c_X7_remove_L {k : Nat} (hk : k < 10) {Q : Option am_v → am_H → Prop} : ∀ s, wp (lp (s_X7_remove k) s) (fun a => Q none a) → ((∀ x2 h, s = (4, [x2], [], [], h) → am_V RX7 cX7_remove 3 (none) 0 0 0 0 none (am_Tm cX7_remove (none) Q) 0 0 4 [some (am_r (.inr k) 17), none, some (am_i x2)] [] h)) := by
  refine lp_ind _ _ (fun s H => fun x2 h e => ?_)
  · subst e
    rw [s_X7_remove] at H
    refine rl_i2 dX7_remove_4 ?_
    refine rl_a0 dX7_remove_5 ?_
    refine ar_getI dX7_remove_6 fg_X7_18 rfl rfl (ok_P hk rfl) ?_
    refine ar_ic_ge 46 dX7_remove_9 (by decide) (fun c1 => ?_) (fun c1 => ?_)
    · replace H := wp_t c1 H
      refine rl_a0 dX7_remove_46 ?_
      refine ar_dup dX7_remove_47 trivial ?_
      refine ar_getI dX7_remove_48 fg_X7_18 rfl rfl (ok_P hk rfl) ?_
      refine ar_iconst (iI (1)) dX7_remove_51 rfl ?_
      refine ar_isub dX7_remove_52 ?_
      refine ar_putI dX7_remove_53 fg_X7_18 rfl rfl (ok_P hk rfl) rfl rfl ?_
      replace H := wp_l H
      generalize am_u h (.inr k) 17 2 ((h.1 (.inr k) 17 2) - (iI (1))) = h1 at H ⊢
      replace H := lp_re H
      exact ar_vret dX7_remove_56 rfl H
    · replace H := wp_f c1 H
      refine rl_a0 dX7_remove_12 ?_
      refine rg_R (.inr k) 18 dX7_remove_13 fg_X7_9 rfl rfl rfl (ok_P hk rfl) ?_
      refine rl_i2 dX7_remove_16 ?_
      refine ar_iconst (iI (1)) dX7_remove_17 rfl ?_
      refine ar_isub dX7_remove_18 ?_
      refine rl_a0 dX7_remove_19 ?_
      refine rg_R (.inr k) 18 dX7_remove_20 fg_X7_9 rfl rfl rfl (ok_P hk rfl) ?_
      refine rl_i2 dX7_remove_23 ?_
      obtain ⟨b1, H⟩ := wp_g H
      refine ar_iald dX7_remove_24 rfl (ok_P hk rfl) (ib_in b1) ?_
      obtain ⟨b2, H⟩ := wp_g H
      refine ar_iast dX7_remove_25 rfl (ok_P hk rfl) (ib_in b2) ?_
      replace H := wp_l H
      generalize am_u h (.inr k) 18 (((x2 - (iI (1)))).toNatClampNeg) (h.1 (.inr k) 18 x2.toNatClampNeg) = h1 at H ⊢
      refine rl_a0 dX7_remove_26 ?_
      refine rg_R (.inr k) 19 dX7_remove_27 fg_X7_15 rfl rfl rfl (ok_P hk rfl) ?_
      refine rl_i2 dX7_remove_30 ?_
      refine ar_iconst (iI (1)) dX7_remove_31 rfl ?_
      refine ar_isub dX7_remove_32 ?_
      refine rl_a0 dX7_remove_33 ?_
      refine rg_R (.inr k) 19 dX7_remove_34 fg_X7_15 rfl rfl rfl (ok_P hk rfl) ?_
      refine rl_i2 dX7_remove_37 ?_
      obtain ⟨b3, H⟩ := wp_g H
      refine ar_iald dX7_remove_38 rfl (ok_P hk rfl) (ib_in b3) ?_
      obtain ⟨b4, H⟩ := wp_g H
      refine ar_iast dX7_remove_39 rfl (ok_P hk rfl) (ib_in b4) ?_
      replace H := wp_l H
      generalize am_u h1 (.inr k) 19 (((x2 - (iI (1)))).toNatClampNeg) (h1.1 (.inr k) 19 x2.toNatClampNeg) = h2 at H ⊢
      refine rn_1_2 dX7_remove_40 rfl trivial ?_
      refine ar_goto 4 dX7_remove_43 (by decide) ?_
      exact am_V.wk (am_s (am_n (am_s am_0))) ((lp_in H) _ _ rfl)
theorem c_X7_remove {k : Nat} (hk : k < 10) {x1 : Int32} {h : am_H} {a : am_H} (e : f_X7_remove k x1 h = some a) : am_Mv yX7_remove cX7_remove 3 (none) 0 0 [am_r (.inr k) 17, am_i x1] h a := by
  refine am_M.ofv (A := [some (am_r (.inr k) 17), some (am_i x1), none]) (by decide +kernel) rfl (ble rfl) (fun Q hQ => ?_)
  have H : wp (f_X7_remove k x1 h) (fun a => Q none a) := ⟨_, e, hQ⟩
  unfold f_X7_remove at H
  refine rl_i1 dX7_remove_0 ?_
  refine ar_iconst (iI (1)) dX7_remove_1 rfl ?_
  refine ar_iadd dX7_remove_2 ?_
  refine rs_i2 dX7_remove_3 rfl trivial ?_
  exact am_V.wk (am_s (am_n (am_s am_0))) ((c_X7_remove_L hk _ H) _ _ rfl)
noncomputable def s_X7_removeAllOf (k : Nat) : am_S am_H → Option (am_S am_H ⊕ (Int32 × am_H)) := fun s => match s with
  | (4, [x1, x2, x3], [], [], h) => if (h.1 (.inr k) 17 2) ≤ x3 then (am_lt (am_u h (.inr k) 17 2 x2) (fun h1 => some (.inr ((((h.1 (.inr k) 17 2) - x2), h1))))) else (if ib x3 44 then (if (h.1 (.inr k) 18 x3.toNatClampNeg) = x1 then (some (.inl (4, [x1, x2, (x3 + 1)], [], [], h))) else (if ib x3 44 then (if ib x2 44 then (am_lt (am_u h (.inr k) 18 x2.toNatClampNeg (h.1 (.inr k) 18 x3.toNatClampNeg)) (fun h1 => if ib x3 44 then (if ib x2 44 then (am_lt (am_u h1 (.inr k) 19 x2.toNatClampNeg (h1.1 (.inr k) 19 x3.toNatClampNeg)) (fun h2 => some (.inl (4, [x1, (x2 + 1), (x3 + 1)], [], [], h2)))) else none) else none)) else none) else none)) else none)
  | _ => none
noncomputable def f_X7_removeAllOf_4 (k : Nat) (x1 : Int32) (x2 : Int32) (x3 : Int32) (h : am_H) : Option (Int32 × am_H) := lp (s_X7_removeAllOf k) (4, [x1, x2, x3], [], [], h)
theorem e_X7_removeAllOf_4 (k : Nat) (x1 : Int32) (x2 : Int32) (x3 : Int32) (h : am_H) : f_X7_removeAllOf_4 k x1 x2 x3 h = (if (h.1 (.inr k) 17 2) ≤ x3 then (am_lt (am_u h (.inr k) 17 2 x2) (fun h1 => some ((((h.1 (.inr k) 17 2) - x2), h1)))) else (if ib x3 44 then (if (h.1 (.inr k) 18 x3.toNatClampNeg) = x1 then (f_X7_removeAllOf_4 k x1 x2 (x3 + 1) h) else (if ib x3 44 then (if ib x2 44 then (am_lt (am_u h (.inr k) 18 x2.toNatClampNeg (h.1 (.inr k) 18 x3.toNatClampNeg)) (fun h1 => if ib x3 44 then (if ib x2 44 then (am_lt (am_u h1 (.inr k) 19 x2.toNatClampNeg (h1.1 (.inr k) 19 x3.toNatClampNeg)) (fun h2 => f_X7_removeAllOf_4 k x1 (x2 + 1) (x3 + 1) h2)) else none) else none)) else none) else none)) else none)) := by
  show lp _ _ = _
  rw [lp_eq, s_X7_removeAllOf]
  simp only [lpk_i, lpk_b, lpk_l, lpk_n, lpk_j, lpk_r] <;> rfl
noncomputable def f_X7_removeAllOf (k : Nat) (x1 : Int32) (h : am_H) : Option (Int32 × am_H) :=
  f_X7_removeAllOf_4 k x1 (iI (0)) (iI (0)) h
theorem c_X7_removeAllOf_L {k : Nat} (hk : k < 10) {Q : Option am_v → am_H → Prop} : ∀ s, wp (lp (s_X7_removeAllOf k) s) (fun a => Q (some (am_i a.1)) a.2) → ((∀ x1 x2 x3 h, s = (4, [x1, x2, x3], [], [], h) → am_V RX7 cX7_removeAllOf 4 (some .int) 0 0 0 0 none (am_Tm cX7_removeAllOf (some .int) Q) 0 0 4 [some (am_r (.inr k) 17), some (am_i x1), some (am_i x2), some (am_i x3)] [] h)) := by
  refine lp_ind _ _ (fun s H => fun x1 x2 x3 h e => ?_)
  · subst e
    rw [s_X7_removeAllOf] at H
    refine rl_i3 dX7_removeAllOf_4 ?_
    refine rl_a0 dX7_removeAllOf_5 ?_
    refine ar_getI dX7_removeAllOf_6 fg_X7_18 rfl rfl (ok_P hk rfl) ?_
    refine ar_ic_ge 55 dX7_removeAllOf_9 (by decide) (fun c1 => ?_) (fun c1 => ?_)
    · replace H := wp_t c1 H
      refine rl_a0 dX7_removeAllOf_55 ?_
      refine ar_getI dX7_removeAllOf_56 fg_X7_18 rfl rfl (ok_P hk rfl) ?_
      refine rl_i2 dX7_removeAllOf_59 ?_
      refine ar_isub dX7_removeAllOf_60 ?_
      refine rs_i3 dX7_removeAllOf_61 rfl trivial ?_
      refine rl_a0 dX7_removeAllOf_62 ?_
      refine rl_i2 dX7_removeAllOf_63 ?_
      refine ar_putI dX7_removeAllOf_64 fg_X7_18 rfl rfl (ok_P hk rfl) rfl rfl ?_
      replace H := wp_l H
      generalize am_u h (.inr k) 17 2 x2 = h1 at H ⊢
      refine rl_i3 dX7_removeAllOf_67 ?_
      replace H := lp_re H
      exact ar_iret dX7_removeAllOf_68 rfl rfl H
    · replace H := wp_f c1 H
      refine rl_a0 dX7_removeAllOf_12 ?_
      refine rg_R (.inr k) 18 dX7_removeAllOf_13 fg_X7_9 rfl rfl rfl (ok_P hk rfl) ?_
      refine rl_i3 dX7_removeAllOf_16 ?_
      obtain ⟨b1, H⟩ := wp_g H
      refine ar_iald dX7_removeAllOf_17 rfl (ok_P hk rfl) (ib_in b1) ?_
      refine rl_i1 dX7_removeAllOf_18 ?_
      refine ar_ic_eq 49 dX7_removeAllOf_19 (by decide) (fun c2 => ?_) (fun c2 => ?_)
      · replace H := wp_t c2 H
        refine rn_1_3 dX7_removeAllOf_49 rfl trivial ?_
        refine ar_goto 4 dX7_removeAllOf_52 (by decide) ?_
        exact am_V.wk (am_s (am_s (am_s (am_s am_0)))) ((lp_in H) _ _ _ _ rfl)
      · replace H := wp_f c2 H
        refine rl_a0 dX7_removeAllOf_22 ?_
        refine rg_R (.inr k) 18 dX7_removeAllOf_23 fg_X7_9 rfl rfl rfl (ok_P hk rfl) ?_
        refine rl_i2 dX7_removeAllOf_26 ?_
        refine rl_a0 dX7_removeAllOf_27 ?_
        refine rg_R (.inr k) 18 dX7_removeAllOf_28 fg_X7_9 rfl rfl rfl (ok_P hk rfl) ?_
        refine rl_i3 dX7_removeAllOf_31 ?_
        obtain ⟨b2, H⟩ := wp_g H
        refine ar_iald dX7_removeAllOf_32 rfl (ok_P hk rfl) (ib_in b2) ?_
        obtain ⟨b3, H⟩ := wp_g H
        refine ar_iast dX7_removeAllOf_33 rfl (ok_P hk rfl) (ib_in b3) ?_
        replace H := wp_l H
        generalize am_u h (.inr k) 18 x2.toNatClampNeg (h.1 (.inr k) 18 x3.toNatClampNeg) = h1 at H ⊢
        refine rl_a0 dX7_removeAllOf_34 ?_
        refine rg_R (.inr k) 19 dX7_removeAllOf_35 fg_X7_15 rfl rfl rfl (ok_P hk rfl) ?_
        refine rl_i2 dX7_removeAllOf_38 ?_
        refine rl_a0 dX7_removeAllOf_39 ?_
        refine rg_R (.inr k) 19 dX7_removeAllOf_40 fg_X7_15 rfl rfl rfl (ok_P hk rfl) ?_
        refine rl_i3 dX7_removeAllOf_43 ?_
        obtain ⟨b4, H⟩ := wp_g H
        refine ar_iald dX7_removeAllOf_44 rfl (ok_P hk rfl) (ib_in b4) ?_
        obtain ⟨b5, H⟩ := wp_g H
        refine ar_iast dX7_removeAllOf_45 rfl (ok_P hk rfl) (ib_in b5) ?_
        replace H := wp_l H
        generalize am_u h1 (.inr k) 19 x2.toNatClampNeg (h1.1 (.inr k) 19 x3.toNatClampNeg) = h2 at H ⊢
        refine rn_1_2 dX7_removeAllOf_46 rfl trivial ?_
        refine rn_1_3 dX7_removeAllOf_49 rfl trivial ?_
        refine ar_goto 4 dX7_removeAllOf_52 (by decide) ?_
        exact am_V.wk (am_s (am_s (am_s (am_s am_0)))) ((lp_in H) _ _ _ _ rfl)
theorem c_X7_removeAllOf {k : Nat} (hk : k < 10) {x1 : Int32} {h : am_H} {a : Int32 × am_H} (e : f_X7_removeAllOf k x1 h = some a) : am_Mi yX7_removeAllOf cX7_removeAllOf 4 (some .int) 0 0 [am_r (.inr k) 17, am_i x1] h a.1 a.2 := by
  refine am_M.ofi (A := [some (am_r (.inr k) 17), some (am_i x1), none, none]) (by decide +kernel) rfl (ble rfl) (fun Q hQ => ?_)
  have H : wp (f_X7_removeAllOf k x1 h) (fun a => Q (some (am_i a.1)) a.2) := ⟨_, e, hQ⟩
  unfold f_X7_removeAllOf at H
  refine ar_iconst (iI (0)) dX7_removeAllOf_0 rfl ?_
  refine rs_i2 dX7_removeAllOf_1 rfl trivial ?_
  refine ar_iconst (iI (0)) dX7_removeAllOf_2 rfl ?_
  refine rs_i3 dX7_removeAllOf_3 rfl trivial ?_
  exact am_V.wk (am_s (am_s (am_s (am_s am_0)))) ((c_X7_removeAllOf_L hk _ H) _ _ _ _ rfl)
noncomputable def s_X7_countOf (k : Nat) (h : am_H) : am_S Unit → Option (am_S Unit ⊕ Int32) := fun s => match s with
  | (4, [x1, x2, x3], [], [], ()) => if (h.1 (.inr k) 17 2) ≤ x3 then (some (.inr (x2))) else (if ib x3 44 then (if (h.1 (.inr k) 18 x3.toNatClampNeg) = x1 then (some (.inl (4, [x1, (x2 + 1), (x3 + 1)], [], [], ()))) else (some (.inl (4, [x1, x2, (x3 + 1)], [], [], ())))) else none)
  | _ => none
noncomputable def f_X7_countOf_4 (k : Nat) (x1 : Int32) (x2 : Int32) (x3 : Int32) (h : am_H) : Option Int32 := lp (s_X7_countOf k h) (4, [x1, x2, x3], [], [], ())
theorem e_X7_countOf_4 (k : Nat) (x1 : Int32) (x2 : Int32) (x3 : Int32) (h : am_H) : f_X7_countOf_4 k x1 x2 x3 h = (if (h.1 (.inr k) 17 2) ≤ x3 then (some (x2)) else (if ib x3 44 then (if (h.1 (.inr k) 18 x3.toNatClampNeg) = x1 then (f_X7_countOf_4 k x1 (x2 + 1) (x3 + 1) h) else (f_X7_countOf_4 k x1 x2 (x3 + 1) h)) else none)) := by
  show lp _ _ = _
  rw [lp_eq, s_X7_countOf]
  simp only [lpk_i, lpk_b, lpk_l, lpk_n, lpk_j, lpk_r] <;> rfl
noncomputable def f_X7_countOf (k : Nat) (x1 : Int32) (h : am_H) : Option Int32 :=
  f_X7_countOf_4 k x1 (iI (0)) (iI (0)) h
theorem c_X7_countOf_L {k : Nat} (hk : k < 10) {h : am_H} {Q : Option am_v → am_H → Prop} : ∀ s, wp (lp (s_X7_countOf k h) s) (fun a => Q (some (am_i a)) h) → ((∀ x1 x2 x3, s = (4, [x1, x2, x3], [], [], ()) → am_V RX7 cX7_countOf 4 (some .int) 0 0 0 0 none (am_Tm cX7_countOf (some .int) Q) 0 0 4 [some (am_r (.inr k) 17), some (am_i x1), some (am_i x2), some (am_i x3)] [] h)) := by
  refine lp_ind _ _ (fun s H => fun x1 x2 x3 e => ?_)
  · subst e
    rw [s_X7_countOf] at H
    refine rl_i3 dX7_countOf_4 ?_
    refine rl_a0 dX7_countOf_5 ?_
    refine ar_getI dX7_countOf_6 fg_X7_18 rfl rfl (ok_P hk rfl) ?_
    refine ar_ic_ge 31 dX7_countOf_9 (by decide) (fun c1 => ?_) (fun c1 => ?_)
    · replace H := wp_t c1 H
      refine rl_i2 dX7_countOf_31 ?_
      replace H := lp_re H
      exact ar_iret dX7_countOf_32 rfl rfl H
    · replace H := wp_f c1 H
      refine rl_a0 dX7_countOf_12 ?_
      refine rg_R (.inr k) 18 dX7_countOf_13 fg_X7_9 rfl rfl rfl (ok_P hk rfl) ?_
      refine rl_i3 dX7_countOf_16 ?_
      obtain ⟨b1, H⟩ := wp_g H
      refine ar_iald dX7_countOf_17 rfl (ok_P hk rfl) (ib_in b1) ?_
      refine rl_i1 dX7_countOf_18 ?_
      refine ar_ic_ne 25 dX7_countOf_19 (by decide) (fun c2 => ?_) (fun c2 => ?_)
      · replace H := wp_f c2 H
        refine rn_1_3 dX7_countOf_25 rfl trivial ?_
        refine ar_goto 4 dX7_countOf_28 (by decide) ?_
        exact am_V.wk (am_s (am_s (am_s (am_s am_0)))) ((lp_in H) _ _ _ rfl)
      · replace H := wp_t c2 H
        refine rn_1_2 dX7_countOf_22 rfl trivial ?_
        refine rn_1_3 dX7_countOf_25 rfl trivial ?_
        refine ar_goto 4 dX7_countOf_28 (by decide) ?_
        exact am_V.wk (am_s (am_s (am_s (am_s am_0)))) ((lp_in H) _ _ _ rfl)
theorem c_X7_countOf {k : Nat} (hk : k < 10) {x1 : Int32} {h : am_H} {a : Int32} (e : f_X7_countOf k x1 h = some a) : am_Mi yX7_countOf cX7_countOf 4 (some .int) 0 0 [am_r (.inr k) 17, am_i x1] h a h := by
  refine am_M.ofi (A := [some (am_r (.inr k) 17), some (am_i x1), none, none]) (by decide +kernel) rfl (ble rfl) (fun Q hQ => ?_)
  have H : wp (f_X7_countOf k x1 h) (fun a => Q (some (am_i a)) h) := ⟨_, e, hQ⟩
  unfold f_X7_countOf at H
  refine ar_iconst (iI (0)) dX7_countOf_0 rfl ?_
  refine rs_i2 dX7_countOf_1 rfl trivial ?_
  refine ar_iconst (iI (0)) dX7_countOf_2 rfl ?_
  refine rs_i3 dX7_countOf_3 rfl trivial ?_
  exact am_V.wk (am_s (am_s (am_s (am_s am_0)))) ((c_X7_countOf_L hk _ H) _ _ _ rfl)
