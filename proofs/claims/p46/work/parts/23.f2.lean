noncomputable def f_X5_centreTurn (k : Nat) (x1 : Int32) (h : am_H) : Option Int32 :=
  if (h.1 (.inr k) 6 4) ≤ 0 then (some ((iI (0)))) else ((f_X0_turnAhead k (h.1 (.inr k) 1 4) h).bind (fun a1 => if ((iI (2)) * (h.1 (.inr k) 6 4)) = 0 then none else (some ((((((iI (2)) * x1) + (iI (1))) * a1) / ((iI (2)) * (h.1 (.inr k) 6 4)))))))
theorem c_X5_centreTurn {k : Nat} (hk : k < 10) {x1 : Int32} {h : am_H} {a : Int32} (e : f_X5_centreTurn k x1 h = some a) : am_Mi yX5_centreTurn cX5_centreTurn 3 (some .int) 1 23 [am_r (.inr k) 0, am_i x1] h a h := by
  refine am_M.ofi (A := [some (am_r (.inr k) 0), some (am_i x1), none]) (by decide +kernel) rfl (ble rfl) (fun Q hQ => ?_)
  have H : wp (f_X5_centreTurn k x1 h) (fun a => Q (some (am_i a)) h) := ⟨_, e, hQ⟩
  unfold f_X5_centreTurn at H
  refine rl_a0 dX5_centreTurn_0 ?_
  refine rg_R (.inr k) 6 dX5_centreTurn_1 fg_X5_21 rfl rfl rfl (ok_P hk rfl) ?_
  refine ar_getI dX5_centreTurn_4 fg_X5_81 rfl rfl (ok_P hk rfl) ?_
  refine rs_i2 dX5_centreTurn_7 rfl trivial ?_
  refine rl_i2 dX5_centreTurn_8 ?_
  refine ar_if_le 39 dX5_centreTurn_9 (by decide) (fun c1 => ?_) (fun c1 => ?_)
  · replace H := wp_t c1 H
    refine ar_iconst (iI (0)) dX5_centreTurn_39 rfl ?_
    replace H := wp_s H
    exact ar_iret dX5_centreTurn_40 rfl rfl H
  · replace H := wp_f c1 H
    refine ar_iconst (iI (2)) dX5_centreTurn_12 rfl ?_
    refine rl_i1 dX5_centreTurn_13 ?_
    refine ar_imul dX5_centreTurn_14 ?_
    refine ar_iconst (iI (1)) dX5_centreTurn_15 rfl ?_
    refine ar_iadd dX5_centreTurn_16 ?_
    refine rl_a0 dX5_centreTurn_17 ?_
    refine rg_R (.inr k) 1 dX5_centreTurn_18 fg_X5_12 rfl rfl rfl (ok_P hk rfl) ?_
    refine rl_a0 dX5_centreTurn_21 ?_
    refine rg_R (.inr k) 1 dX5_centreTurn_22 fg_X5_12 rfl rfl rfl (ok_P hk rfl) ?_
    refine ar_getI dX5_centreTurn_25 fg_X5_50 rfl rfl (ok_P hk rfl) ?_
    obtain ⟨a1, e1, H⟩ := wp_b H
    refine rc_V1i dX5_centreTurn_28 ml_X5_84 mc_X0_turnAhead (c_X0_turnAhead hk e1) rfl rfl rfl (ok_P hk rfl) rfl rfl rfl ?_
    refine ar_imul dX5_centreTurn_31 ?_
    refine ar_iconst (iI (2)) dX5_centreTurn_32 rfl ?_
    refine rl_i2 dX5_centreTurn_33 ?_
    refine ar_imul dX5_centreTurn_34 ?_
    obtain ⟨b1, H⟩ := wp_d H
    refine ar_idiv dX5_centreTurn_35 b1 ?_
    refine ar_goto 40 dX5_centreTurn_36 (by decide) ?_
    replace H := wp_s H
    exact ar_iret dX5_centreTurn_40 rfl rfl H
noncomputable def f_X5_centreParts (k : Nat) (x1 : Int32) (h : am_H) : Option Int32 :=
  (f_X5_centreTurn k x1 h).bind (fun a1 => (f_X0_partsTo k a1 h).bind (fun a2 => some (a2)))
theorem c_X5_centreParts {k : Nat} (hk : k < 10) {x1 : Int32} {h : am_H} {a : Int32} (e : f_X5_centreParts k x1 h = some a) : am_Mi yX5_centreParts cX5_centreParts 2 (some .int) 2 46 [am_r (.inr k) 0, am_i x1] h a h := by
  refine am_M.ofi (A := [some (am_r (.inr k) 0), some (am_i x1)]) (by decide +kernel) rfl (ble rfl) (fun Q hQ => ?_)
  have H : wp (f_X5_centreParts k x1 h) (fun a => Q (some (am_i a)) h) := ⟨_, e, hQ⟩
  unfold f_X5_centreParts at H
  refine rl_a0 dX5_centreParts_0 ?_
  refine rg_R (.inr k) 1 dX5_centreParts_1 fg_X5_12 rfl rfl rfl (ok_P hk rfl) ?_
  refine rl_a0 dX5_centreParts_4 ?_
  refine rl_i1 dX5_centreParts_5 ?_
  obtain ⟨a1, e1, H⟩ := wp_b H
  refine rc_V1i dX5_centreParts_6 ml_X5_88 mc_X5_centreTurn (c_X5_centreTurn hk e1) rfl rfl rfl (ok_P hk rfl) rfl rfl rfl ?_
  obtain ⟨a2, e2, H⟩ := wp_b H
  refine rc_V1i dX5_centreParts_9 ml_X5_91 mc_X0_partsTo (c_X0_partsTo hk e2) rfl rfl rfl (ok_P hk rfl) rfl rfl rfl ?_
  replace H := wp_s H
  exact ar_iret dX5_centreParts_12 rfl rfl H
noncomputable def s_X3_measure (k : Nat) : am_S am_H → Option (am_S am_H ⊕ am_H) := fun s => match s with
  | (13, [x2, x3, x4], [], [], h) => if x2 ≤ x4 then ((f_X0_wholeParts k h).bind (fun a1 => if ib x2 21 then (am_lt (am_u h (.inl 1) 4 x2.toNatClampNeg (a1 - x3)) (fun h1 => am_lt (am_u h1 (.inl 1) 3 4 (x2 + (iI (1)))) (fun h2 => some (.inr (h2))))) else none)) else ((f_X5_centreParts k x4 h).bind (fun a1 => (f_X4_partsOf k x4 h).bind (fun a2 => if (iI (2)) = 0 then none else (if ib x4 21 then (am_lt (am_u h (.inl 1) 4 x4.toNatClampNeg ((a1 - (a2 / (iI (2)))) - x3)) (fun h1 => some (.inl (13, [x2, (a1 + (a2 / (iI (2)))), (x4 + 1)], [], [], h1)))) else none))))
  | _ => none
noncomputable def f_X3_measure_13 (k : Nat) (x2 : Int32) (x3 : Int32) (x4 : Int32) (h : am_H) : Option am_H := lp (s_X3_measure k) (13, [x2, x3, x4], [], [], h)
theorem e_X3_measure_13 (k : Nat) (x2 : Int32) (x3 : Int32) (x4 : Int32) (h : am_H) : f_X3_measure_13 k x2 x3 x4 h = (if x2 ≤ x4 then ((f_X0_wholeParts k h).bind (fun a1 => if ib x2 21 then (am_lt (am_u h (.inl 1) 4 x2.toNatClampNeg (a1 - x3)) (fun h1 => am_lt (am_u h1 (.inl 1) 3 4 (x2 + (iI (1)))) (fun h2 => some (h2)))) else none)) else ((f_X5_centreParts k x4 h).bind (fun a1 => (f_X4_partsOf k x4 h).bind (fun a2 => if (iI (2)) = 0 then none else (if ib x4 21 then (am_lt (am_u h (.inl 1) 4 x4.toNatClampNeg ((a1 - (a2 / (iI (2)))) - x3)) (fun h1 => f_X3_measure_13 k x2 (a1 + (a2 / (iI (2)))) (x4 + 1) h1)) else none))))) := by
  show lp _ _ = _
  rw [lp_eq, s_X3_measure]
  simp only [lpk_i, lpk_b, lpk_l, lpk_n, lpk_j, lpk_r] <;> rfl
noncomputable def f_X3_measure (k : Nat) (h : am_H) : Option am_H :=
  f_X3_measure_13 k (h.1 (.inr k) 6 4) (iI (0)) (iI (0)) h
theorem c_X3_measure_L {k : Nat} (hk : k < 10) {Q : Option am_v → am_H → Prop} : ∀ s, wp (lp (s_X3_measure k) s) (fun a => Q none a) → ((∀ x2 x3 x4 h, s = (13, [x2, x3, x4], [], [], h) → am_V RX3 cX3_measure 7 (none) 3 67 0 0 none (am_Tm cX3_measure (none) Q) 0 0 13 [some (am_r (.inl 1) 3), some (am_r (.inr k) 0), some (am_i x2), some (am_i x3), some (am_i x4), none, none] [] h)) := by
  refine lp_ind _ _ (fun s H => fun x2 x3 x4 h e => ?_)
  · subst e
    rw [s_X3_measure] at H
    refine rl_i4 dX3_measure_13 ?_
    refine rl_i2 dX3_measure_15 ?_
    refine ar_ic_ge 66 dX3_measure_16 (by decide) (fun c1 => ?_) (fun c1 => ?_)
    · replace H := wp_t c1 H
      refine rl_a0 dX3_measure_66 ?_
      refine rg_R (.inl 1) 4 dX3_measure_67 fg_X3_9 rfl rfl rfl (ok_X rfl) ?_
      refine rl_i2 dX3_measure_70 ?_
      refine rl_a1 dX3_measure_71 ?_
      refine rg_R (.inr k) 1 dX3_measure_72 fg_X3_47 rfl rfl rfl (ok_P hk rfl) ?_
      obtain ⟨a1, e1, H⟩ := wp_b H
      refine rc_V0i dX3_measure_75 ml_X3_51 mc_X0_wholeParts (c_X0_wholeParts hk e1) rfl rfl rfl (ok_P hk rfl) rfl rfl rfl ?_
      refine rl_i3 dX3_measure_78 ?_
      refine ar_isub dX3_measure_79 ?_
      obtain ⟨b1, H⟩ := wp_g H
      refine ar_iast dX3_measure_80 rfl (ok_X rfl) (ib_in b1) ?_
      replace H := wp_l H
      generalize am_u h (.inl 1) 4 x2.toNatClampNeg (a1 - x3) = h1 at H ⊢
      refine rl_a0 dX3_measure_81 ?_
      refine rl_i2 dX3_measure_82 ?_
      refine ar_iconst (iI (1)) dX3_measure_83 rfl ?_
      refine ar_iadd dX3_measure_84 ?_
      refine ar_putI dX3_measure_85 fg_X3_25 rfl rfl (ok_X rfl) rfl rfl ?_
      replace H := wp_l H
      generalize am_u h1 (.inl 1) 3 4 (x2 + (iI (1))) = h2 at H ⊢
      replace H := lp_re H
      exact ar_vret dX3_measure_88 rfl H
    · replace H := wp_f c1 H
      refine rl_a1 dX3_measure_19 ?_
      refine rl_i4 dX3_measure_20 ?_
      obtain ⟨a1, e1, H⟩ := wp_b H
      refine rc_V1i dX3_measure_22 ml_X3_40 mc_X5_centreParts (c_X5_centreParts hk e1) rfl rfl rfl (ok_P hk rfl) rfl rfl rfl ?_
      refine rs_i5 dX3_measure_25 rfl trivial ?_
      refine rl_a1 dX3_measure_27 ?_
      refine rg_R (.inr k) 6 dX3_measure_28 fg_X3_29 rfl rfl rfl (ok_P hk rfl) ?_
      refine rl_i4 dX3_measure_31 ?_
      obtain ⟨a2, e2, H⟩ := wp_b H
      refine rc_V1i dX3_measure_33 ml_X3_44 mc_X4_partsOf (c_X4_partsOf hk e2) rfl rfl rfl (ok_P hk rfl) rfl rfl rfl ?_
      refine ar_iconst (iI (2)) dX3_measure_36 rfl ?_
      obtain ⟨b1, H⟩ := wp_d H
      refine ar_idiv dX3_measure_37 b1 ?_
      refine rs_i6 dX3_measure_38 rfl trivial ?_
      refine rl_a0 dX3_measure_40 ?_
      refine rg_R (.inl 1) 4 dX3_measure_41 fg_X3_9 rfl rfl rfl (ok_X rfl) ?_
      refine rl_i4 dX3_measure_44 ?_
      refine rl_i5 dX3_measure_46 ?_
      refine rl_i6 dX3_measure_48 ?_
      refine ar_isub dX3_measure_50 ?_
      refine rl_i3 dX3_measure_51 ?_
      refine ar_isub dX3_measure_52 ?_
      obtain ⟨b2, H⟩ := wp_g H
      refine ar_iast dX3_measure_53 rfl (ok_X rfl) (ib_in b2) ?_
      replace H := wp_l H
      generalize am_u h (.inl 1) 4 x4.toNatClampNeg ((a1 - (a2 / (iI (2)))) - x3) = h1 at H ⊢
      refine rl_i5 dX3_measure_54 ?_
      refine rl_i6 dX3_measure_56 ?_
      refine ar_iadd dX3_measure_58 ?_
      refine rs_i3 dX3_measure_59 rfl trivial ?_
      refine rn_1_4 dX3_measure_60 rfl trivial ?_
      refine ar_goto 13 dX3_measure_63 (by decide) ?_
      exact am_V.wk (am_s (am_s (am_s (am_s (am_s (am_n (am_n am_0))))))) ((lp_in H) _ _ _ _ rfl)
theorem c_X3_measure {k : Nat} (hk : k < 10) {h : am_H} {a : am_H} (e : f_X3_measure k h = some a) : am_Mv yX3_measure cX3_measure 7 (none) 3 67 [am_r (.inl 1) 3, am_r (.inr k) 0] h a := by
  refine am_M.ofv (A := [some (am_r (.inl 1) 3), some (am_r (.inr k) 0), none, none, none, none, none]) (by decide +kernel) rfl (ble rfl) (fun Q hQ => ?_)
  have H : wp (f_X3_measure k h) (fun a => Q none a) := ⟨_, e, hQ⟩
  unfold f_X3_measure at H
  refine rl_a1 dX3_measure_0 ?_
  refine rg_R (.inr k) 6 dX3_measure_1 fg_X3_29 rfl rfl rfl (ok_P hk rfl) ?_
  refine ar_getI dX3_measure_4 fg_X3_35 rfl rfl (ok_P hk rfl) ?_
  refine rs_i2 dX3_measure_7 rfl trivial ?_
  refine ar_iconst (iI (0)) dX3_measure_8 rfl ?_
  refine rs_i3 dX3_measure_9 rfl trivial ?_
  refine ar_iconst (iI (0)) dX3_measure_10 rfl ?_
  refine rs_i4 dX3_measure_11 rfl trivial ?_
  exact am_V.wk (am_s (am_s (am_s (am_s (am_s (am_n (am_n am_0))))))) ((c_X3_measure_L hk _ H) _ _ _ _ rfl)
noncomputable def s_X3_crowdedRooms  (h : am_H) : am_S Unit → Option (am_S Unit ⊕ Int32) := fun s => match s with
  | (4, [x1, x2, x3], [], [], ()) => if (h.1 (.inl 1) 3 4) ≤ x3 then (some (.inr (x2))) else (if ib x3 21 then (if ((iI (100)) * x1) ≤ (h.1 (.inl 1) 4 x3.toNatClampNeg) then (some (.inl (4, [x1, x2, (x3 + 1)], [], [], ()))) else (some (.inl (4, [x1, (x2 ||| ((iI (1)) <<< (x3 &&& 31))), (x3 + 1)], [], [], ())))) else none)
  | _ => none
noncomputable def f_X3_crowdedRooms_4  (x1 : Int32) (x2 : Int32) (x3 : Int32) (h : am_H) : Option Int32 := lp (s_X3_crowdedRooms h) (4, [x1, x2, x3], [], [], ())
theorem e_X3_crowdedRooms_4  (x1 : Int32) (x2 : Int32) (x3 : Int32) (h : am_H) : f_X3_crowdedRooms_4 x1 x2 x3 h = (if (h.1 (.inl 1) 3 4) ≤ x3 then (some (x2)) else (if ib x3 21 then (if ((iI (100)) * x1) ≤ (h.1 (.inl 1) 4 x3.toNatClampNeg) then (f_X3_crowdedRooms_4 x1 x2 (x3 + 1) h) else (f_X3_crowdedRooms_4 x1 (x2 ||| ((iI (1)) <<< (x3 &&& 31))) (x3 + 1) h)) else none)) := by
  show lp _ _ = _
  rw [lp_eq, s_X3_crowdedRooms]
  simp only [lpk_i, lpk_b, lpk_l, lpk_n, lpk_j, lpk_r] <;> rfl
noncomputable def f_X3_crowdedRooms (x1 : Int32) (h : am_H) : Option Int32 :=
  f_X3_crowdedRooms_4 x1 (iI (0)) (iI (0)) h
theorem c_X3_crowdedRooms_L  {h : am_H} {Q : Option am_v → am_H → Prop} : ∀ s, wp (lp (s_X3_crowdedRooms h) s) (fun a => Q (some (am_i a)) h) → ((∀ x1 x2 x3, s = (4, [x1, x2, x3], [], [], ()) → am_V RX3 cX3_crowdedRooms 4 (some .int) 0 0 0 0 none (am_Tm cX3_crowdedRooms (some .int) Q) 0 0 4 [some (am_r (.inl 1) 3), some (am_i x1), some (am_i x2), some (am_i x3)] [] h)) := by
  refine lp_ind _ _ (fun s H => fun x1 x2 x3 e => ?_)
  · subst e
    rw [s_X3_crowdedRooms] at H
    refine rl_i3 dX3_crowdedRooms_4 ?_
    refine rl_a0 dX3_crowdedRooms_5 ?_
    refine ar_getI dX3_crowdedRooms_6 fg_X3_25 rfl rfl (ok_X rfl) ?_
    refine ar_ic_ge 37 dX3_crowdedRooms_9 (by decide) (fun c1 => ?_) (fun c1 => ?_)
    · replace H := wp_t c1 H
      refine rl_i2 dX3_crowdedRooms_37 ?_
      replace H := lp_re H
      exact ar_iret dX3_crowdedRooms_38 rfl rfl H
    · replace H := wp_f c1 H
      refine rl_a0 dX3_crowdedRooms_12 ?_
      refine rg_R (.inl 1) 4 dX3_crowdedRooms_13 fg_X3_9 rfl rfl rfl (ok_X rfl) ?_
      refine rl_i3 dX3_crowdedRooms_16 ?_
      obtain ⟨b1, H⟩ := wp_g H
      refine ar_iald dX3_crowdedRooms_17 rfl (ok_X rfl) (ib_in b1) ?_
      refine ar_bipush (iI (100)) dX3_crowdedRooms_18 rfl ?_
      refine rl_i1 dX3_crowdedRooms_20 ?_
      refine ar_imul dX3_crowdedRooms_21 ?_
      refine ar_ic_ge 31 dX3_crowdedRooms_22 (by decide) (fun c2 => ?_) (fun c2 => ?_)
      · replace H := wp_t c2 H
        refine rn_1_3 dX3_crowdedRooms_31 rfl trivial ?_
        refine ar_goto 4 dX3_crowdedRooms_34 (by decide) ?_
        exact am_V.wk (am_s (am_s (am_s (am_s am_0)))) ((lp_in H) _ _ _ rfl)
      · replace H := wp_f c2 H
        refine rl_i2 dX3_crowdedRooms_25 ?_
        refine ar_iconst (iI (1)) dX3_crowdedRooms_26 rfl ?_
        refine rl_i3 dX3_crowdedRooms_27 ?_
        refine ar_ishl dX3_crowdedRooms_28 ?_
        refine ar_ior dX3_crowdedRooms_29 ?_
        refine rs_i2 dX3_crowdedRooms_30 rfl trivial ?_
        refine rn_1_3 dX3_crowdedRooms_31 rfl trivial ?_
        refine ar_goto 4 dX3_crowdedRooms_34 (by decide) ?_
        exact am_V.wk (am_s (am_s (am_s (am_s am_0)))) ((lp_in H) _ _ _ rfl)
theorem c_X3_crowdedRooms {x1 : Int32} {h : am_H} {a : Int32} (e : f_X3_crowdedRooms x1 h = some a) : am_Mi yX3_crowdedRooms cX3_crowdedRooms 4 (some .int) 0 0 [am_r (.inl 1) 3, am_i x1] h a h := by
  refine am_M.ofi (A := [some (am_r (.inl 1) 3), some (am_i x1), none, none]) (by decide +kernel) rfl (ble rfl) (fun Q hQ => ?_)
  have H : wp (f_X3_crowdedRooms x1 h) (fun a => Q (some (am_i a)) h) := ⟨_, e, hQ⟩
  unfold f_X3_crowdedRooms at H
  refine ar_iconst (iI (0)) dX3_crowdedRooms_0 rfl ?_
  refine rs_i2 dX3_crowdedRooms_1 rfl trivial ?_
  refine ar_iconst (iI (0)) dX3_crowdedRooms_2 rfl ?_
  refine rs_i3 dX3_crowdedRooms_3 rfl trivial ?_
  exact am_V.wk (am_s (am_s (am_s (am_s am_0)))) ((c_X3_crowdedRooms_L  _ H) _ _ _ rfl)
noncomputable def s_X3_tightestRoom  (h : am_H) : am_S Unit → Option (am_S Unit ⊕ Int32) := fun s => match s with
  | (4, [x1, x2], [], [], ()) => if (h.1 (.inl 1) 3 4) ≤ x2 then (some (.inr (x1))) else (if ib x2 21 then (if ib x1 21 then (if (h.1 (.inl 1) 4 x1.toNatClampNeg) ≤ (h.1 (.inl 1) 4 x2.toNatClampNeg) then (some (.inl (4, [x1, (x2 + 1)], [], [], ()))) else (some (.inl (4, [x2, (x2 + 1)], [], [], ())))) else none) else none)
  | _ => none
noncomputable def f_X3_tightestRoom_4  (x1 : Int32) (x2 : Int32) (h : am_H) : Option Int32 := lp (s_X3_tightestRoom h) (4, [x1, x2], [], [], ())
theorem e_X3_tightestRoom_4  (x1 : Int32) (x2 : Int32) (h : am_H) : f_X3_tightestRoom_4 x1 x2 h = (if (h.1 (.inl 1) 3 4) ≤ x2 then (some (x1)) else (if ib x2 21 then (if ib x1 21 then (if (h.1 (.inl 1) 4 x1.toNatClampNeg) ≤ (h.1 (.inl 1) 4 x2.toNatClampNeg) then (f_X3_tightestRoom_4 x1 (x2 + 1) h) else (f_X3_tightestRoom_4 x2 (x2 + 1) h)) else none) else none)) := by
  show lp _ _ = _
  rw [lp_eq, s_X3_tightestRoom]
  simp only [lpk_i, lpk_b, lpk_l, lpk_n, lpk_j, lpk_r] <;> rfl
noncomputable def f_X3_tightestRoom  (h : am_H) : Option Int32 :=
  f_X3_tightestRoom_4 (iI (0)) (iI (1)) h
theorem c_X3_tightestRoom_L  {h : am_H} {Q : Option am_v → am_H → Prop} : ∀ s, wp (lp (s_X3_tightestRoom h) s) (fun a => Q (some (am_i a)) h) → ((∀ x1 x2, s = (4, [x1, x2], [], [], ()) → am_V RX3 cX3_tightestRoom 3 (some .int) 0 0 0 0 none (am_Tm cX3_tightestRoom (some .int) Q) 0 0 4 [some (am_r (.inl 1) 3), some (am_i x1), some (am_i x2)] [] h)) := by
  refine lp_ind _ _ (fun s H => fun x1 x2 e => ?_)
  · subst e
    rw [s_X3_tightestRoom] at H
    refine rl_i2 dX3_tightestRoom_4 ?_
    refine rl_a0 dX3_tightestRoom_5 ?_
    refine ar_getI dX3_tightestRoom_6 fg_X3_25 rfl rfl (ok_X rfl) ?_
    refine ar_ic_ge 35 dX3_tightestRoom_9 (by decide) (fun c1 => ?_) (fun c1 => ?_)
    · replace H := wp_t c1 H
      refine rl_i1 dX3_tightestRoom_35 ?_
      replace H := lp_re H
      exact ar_iret dX3_tightestRoom_36 rfl rfl H
    · replace H := wp_f c1 H
      refine rl_a0 dX3_tightestRoom_12 ?_
      refine rg_R (.inl 1) 4 dX3_tightestRoom_13 fg_X3_9 rfl rfl rfl (ok_X rfl) ?_
      refine rl_i2 dX3_tightestRoom_16 ?_
      obtain ⟨b1, H⟩ := wp_g H
      refine ar_iald dX3_tightestRoom_17 rfl (ok_X rfl) (ib_in b1) ?_
      refine rl_a0 dX3_tightestRoom_18 ?_
      refine rg_R (.inl 1) 4 dX3_tightestRoom_19 fg_X3_9 rfl rfl rfl (ok_X rfl) ?_
      refine rl_i1 dX3_tightestRoom_22 ?_
      obtain ⟨b2, H⟩ := wp_g H
      refine ar_iald dX3_tightestRoom_23 rfl (ok_X rfl) (ib_in b2) ?_
      refine ar_ic_ge 29 dX3_tightestRoom_24 (by decide) (fun c2 => ?_) (fun c2 => ?_)
      · replace H := wp_t c2 H
        refine rn_1_2 dX3_tightestRoom_29 rfl trivial ?_
        refine ar_goto 4 dX3_tightestRoom_32 (by decide) ?_
        exact am_V.wk (am_s (am_s (am_s am_0))) ((lp_in H) _ _ rfl)
      · replace H := wp_f c2 H
        refine rl_i2 dX3_tightestRoom_27 ?_
        refine rs_i1 dX3_tightestRoom_28 rfl trivial ?_
        refine rn_1_2 dX3_tightestRoom_29 rfl trivial ?_
        refine ar_goto 4 dX3_tightestRoom_32 (by decide) ?_
        exact am_V.wk (am_s (am_s (am_s am_0))) ((lp_in H) _ _ rfl)
theorem c_X3_tightestRoom  {h : am_H} {a : Int32} (e : f_X3_tightestRoom h = some a) : am_Mi yX3_tightestRoom cX3_tightestRoom 3 (some .int) 0 0 [am_r (.inl 1) 3] h a h := by
  refine am_M.ofi (A := [some (am_r (.inl 1) 3), none, none]) (by decide +kernel) rfl (ble rfl) (fun Q hQ => ?_)
  have H : wp (f_X3_tightestRoom h) (fun a => Q (some (am_i a)) h) := ⟨_, e, hQ⟩
  unfold f_X3_tightestRoom at H
  refine ar_iconst (iI (0)) dX3_tightestRoom_0 rfl ?_
  refine rs_i1 dX3_tightestRoom_1 rfl trivial ?_
  refine ar_iconst (iI (1)) dX3_tightestRoom_2 rfl ?_
  refine rs_i2 dX3_tightestRoom_3 rfl trivial ?_
  exact am_V.wk (am_s (am_s (am_s am_0))) ((c_X3_tightestRoom_L  _ H) _ _ rfl)
noncomputable def f_X5_hasLetter (k : Nat) (x1 : Int32) (h : am_H) : Option Int32 :=
  (f_X11_isWithin x1 (iI (0)) ((h.1 (.inr k) 6 4) - (iI (1)))).bind (fun a1 => if zb a1 then (some (a1)) else none)
theorem c_X5_hasLetter {k : Nat} (hk : k < 10) {x1 : Int32} {h : am_H} {a : Int32} (e : f_X5_hasLetter k x1 h = some a) : am_Mi yX5_hasLetter cX5_hasLetter 2 (some .boolean) 1 22 [am_r (.inr k) 0, am_i x1] h a h := by
  refine am_M.ofi (A := [some (am_r (.inr k) 0), some (am_i x1)]) (by decide +kernel) rfl (ble rfl) (fun Q hQ => ?_)
  have H : wp (f_X5_hasLetter k x1 h) (fun a => Q (some (am_i a)) h) := ⟨_, e, hQ⟩
  unfold f_X5_hasLetter at H
  refine rl_i1 dX5_hasLetter_0 ?_
  refine ar_iconst (iI (0)) dX5_hasLetter_1 rfl ?_
  refine rl_a0 dX5_hasLetter_2 ?_
  refine rg_R (.inr k) 6 dX5_hasLetter_3 fg_X5_21 rfl rfl rfl (ok_P hk rfl) ?_
  refine ar_getI dX5_hasLetter_6 fg_X5_81 rfl rfl (ok_P hk rfl) ?_
  refine ar_iconst (iI (1)) dX5_hasLetter_9 rfl ?_
  refine ar_isub dX5_hasLetter_10 ?_
  obtain ⟨a1, e1, H⟩ := wp_b H
  refine rc_N3i dX5_hasLetter_11 ml_X5_77 mc_X11_isWithin (c_X11_isWithin e1) rfl rfl rfl ?_
  obtain ⟨b1, H⟩ := wp_g H
  replace H := wp_s H
  exact ar_iret dX5_hasLetter_14 rfl (zb_n b1) H
noncomputable def f_X3_letterSpoiledBy_42 (k : Nat) (x3 : Int32) (h : am_H) : Option Int32 :=
  if (iI (0)) = 0 then (some ((iI (-1)))) else (some (x3))
noncomputable def f_X3_letterSpoiledBy (k : Nat) (x2 : Int32) (h : am_H) : Option Int32 :=
  if ib x2 44 then ((f_X5_hasLetter k ((h.1 (.inr k) 18 x2.toNatClampNeg) + (iI (1))) h).bind (fun a1 => if a1 = 0 then (f_X3_letterSpoiledBy_42 k ((h.1 (.inr k) 18 x2.toNatClampNeg) + (iI (1))) h) else (if ib x2 44 then (if ib ((h.1 (.inr k) 18 x2.toNatClampNeg) + (iI (1))) 21 then (if (h.1 (.inr k) 19 x2.toNatClampNeg) ≤ (h.1 (.inl 1) 4 (((h.1 (.inr k) 18 x2.toNatClampNeg) + (iI (1)))).toNatClampNeg) then (f_X3_letterSpoiledBy_42 k ((h.1 (.inr k) 18 x2.toNatClampNeg) + (iI (1))) h) else (if (iI (1)) = 0 then (some ((iI (-1)))) else (some (((h.1 (.inr k) 18 x2.toNatClampNeg) + (iI (1))))))) else none) else none))) else none
theorem c_X3_letterSpoiledBy_42 {k : Nat} (hk : k < 10) {x3 : Int32} {h : am_H} {Q : Option am_v → am_H → Prop} (H : wp (f_X3_letterSpoiledBy_42 k x3 h) (fun a => Q (some (am_i a)) h)) : am_V RX3 cX3_letterSpoiledBy 5 (some .int) 2 43 0 0 none (am_Tm cX3_letterSpoiledBy (some .int) Q) 0 0 42 [none, none, none, some (am_i x3), none] [] h := by
  unfold f_X3_letterSpoiledBy_42 at H
  refine ar_iconst (iI (0)) dX3_letterSpoiledBy_42 rfl ?_
  refine rs_i4 dX3_letterSpoiledBy_43 rfl trivial ?_
  refine rl_i4 dX3_letterSpoiledBy_45 ?_
  refine ar_if_eq 54 dX3_letterSpoiledBy_47 (by decide) (fun c1 => ?_) (fun c1 => ?_)
  · replace H := wp_t c1 H
    refine ar_iconst (iI (-1)) dX3_letterSpoiledBy_54 rfl ?_
    replace H := wp_s H
    exact ar_iret dX3_letterSpoiledBy_55 rfl rfl H
  · replace H := wp_f c1 H
    refine rl_i3 dX3_letterSpoiledBy_50 ?_
    refine ar_goto 55 dX3_letterSpoiledBy_51 (by decide) ?_
    replace H := wp_s H
    exact ar_iret dX3_letterSpoiledBy_55 rfl rfl H
theorem c_X3_letterSpoiledBy {k : Nat} (hk : k < 10) {x2 : Int32} {h : am_H} {a : Int32} (e : f_X3_letterSpoiledBy k x2 h = some a) : am_Mi yX3_letterSpoiledBy cX3_letterSpoiledBy 5 (some .int) 2 43 [am_r (.inl 1) 3, am_r (.inr k) 0, am_i x2] h a h := by
  refine am_M.ofi (A := [some (am_r (.inl 1) 3), some (am_r (.inr k) 0), some (am_i x2), none, none]) (by decide +kernel) rfl (ble rfl) (fun Q hQ => ?_)
  have H : wp (f_X3_letterSpoiledBy k x2 h) (fun a => Q (some (am_i a)) h) := ⟨_, e, hQ⟩
  unfold f_X3_letterSpoiledBy at H
  refine rl_a1 dX3_letterSpoiledBy_0 ?_
  refine rg_R (.inr k) 17 dX3_letterSpoiledBy_1 fg_X3_57 rfl rfl rfl (ok_P hk rfl) ?_
  refine rg_R (.inr k) 18 dX3_letterSpoiledBy_4 fg_X3_61 rfl rfl rfl (ok_P hk rfl) ?_
  refine rl_i2 dX3_letterSpoiledBy_7 ?_
  obtain ⟨b1, H⟩ := wp_g H
  refine ar_iald dX3_letterSpoiledBy_8 rfl (ok_P hk rfl) (ib_in b1) ?_
  refine ar_iconst (iI (1)) dX3_letterSpoiledBy_9 rfl ?_
  refine ar_iadd dX3_letterSpoiledBy_10 ?_
  refine rs_i3 dX3_letterSpoiledBy_11 rfl trivial ?_
  refine rl_a1 dX3_letterSpoiledBy_12 ?_
  refine rl_i3 dX3_letterSpoiledBy_13 ?_
  obtain ⟨a1, e1, H⟩ := wp_b H
  refine rc_V1i dX3_letterSpoiledBy_14 ml_X3_65 mc_X5_hasLetter (c_X5_hasLetter hk e1) rfl rfl rfl (ok_P hk rfl) rfl rfl rfl ?_
  refine ar_if_eq 42 dX3_letterSpoiledBy_17 (by decide) (fun c1 => ?_) (fun c1 => ?_)
  · replace H := wp_t c1 H
    exact am_V.wk (am_n (am_n (am_n (am_s (am_n am_0))))) (c_X3_letterSpoiledBy_42 hk H)
  · replace H := wp_f c1 H
    refine rl_a1 dX3_letterSpoiledBy_20 ?_
    refine rg_R (.inr k) 17 dX3_letterSpoiledBy_21 fg_X3_57 rfl rfl rfl (ok_P hk rfl) ?_
    refine rg_R (.inr k) 19 dX3_letterSpoiledBy_24 fg_X3_69 rfl rfl rfl (ok_P hk rfl) ?_
    refine rl_i2 dX3_letterSpoiledBy_27 ?_
    obtain ⟨b2, H⟩ := wp_g H
    refine ar_iald dX3_letterSpoiledBy_28 rfl (ok_P hk rfl) (ib_in b2) ?_
    refine rl_a0 dX3_letterSpoiledBy_29 ?_
    refine rg_R (.inl 1) 4 dX3_letterSpoiledBy_30 fg_X3_9 rfl rfl rfl (ok_X rfl) ?_
    refine rl_i3 dX3_letterSpoiledBy_33 ?_
    obtain ⟨b3, H⟩ := wp_g H
    refine ar_iald dX3_letterSpoiledBy_34 rfl (ok_X rfl) (ib_in b3) ?_
    refine ar_ic_le 42 dX3_letterSpoiledBy_35 (by decide) (fun c2 => ?_) (fun c2 => ?_)
    · replace H := wp_t c2 H
      exact am_V.wk (am_n (am_n (am_n (am_s (am_n am_0))))) (c_X3_letterSpoiledBy_42 hk H)
    · replace H := wp_f c2 H
      refine ar_iconst (iI (1)) dX3_letterSpoiledBy_38 rfl ?_
      refine ar_goto 43 dX3_letterSpoiledBy_39 (by decide) ?_
      refine rs_i4 dX3_letterSpoiledBy_43 rfl trivial ?_
      refine rl_i4 dX3_letterSpoiledBy_45 ?_
      refine ar_if_eq 54 dX3_letterSpoiledBy_47 (by decide) (fun c3 => ?_) (fun c3 => ?_)
      · replace H := wp_t c3 H
        refine ar_iconst (iI (-1)) dX3_letterSpoiledBy_54 rfl ?_
        replace H := wp_s H
        exact ar_iret dX3_letterSpoiledBy_55 rfl rfl H
      · replace H := wp_f c3 H
        refine rl_i3 dX3_letterSpoiledBy_50 ?_
        refine ar_goto 55 dX3_letterSpoiledBy_51 (by decide) ?_
        replace H := wp_s H
        exact ar_iret dX3_letterSpoiledBy_55 rfl rfl H
noncomputable def s_X3_isSpoiled (k : Nat) (h : am_H) : am_S Unit → Option (am_S Unit ⊕ Int32) := fun s => match s with
  | (2, [x2, x3], [], [], ()) => if (h.1 (.inr k) 17 2) ≤ x3 then (some (.inr ((iI (0))))) else ((f_X3_letterSpoiledBy k x3 h).bind (fun a1 => if a1 = x2 then (some (.inr ((iI (1))))) else (some (.inl (2, [x2, (x3 + 1)], [], [], ())))))
  | _ => none
noncomputable def f_X3_isSpoiled_2 (k : Nat) (x2 : Int32) (x3 : Int32) (h : am_H) : Option Int32 := lp (s_X3_isSpoiled k h) (2, [x2, x3], [], [], ())
theorem e_X3_isSpoiled_2 (k : Nat) (x2 : Int32) (x3 : Int32) (h : am_H) : f_X3_isSpoiled_2 k x2 x3 h = (if (h.1 (.inr k) 17 2) ≤ x3 then (some ((iI (0)))) else ((f_X3_letterSpoiledBy k x3 h).bind (fun a1 => if a1 = x2 then (some ((iI (1)))) else (f_X3_isSpoiled_2 k x2 (x3 + 1) h)))) := by
  show lp _ _ = _
  rw [lp_eq, s_X3_isSpoiled]
  simp only [lpk_i, lpk_b, lpk_l, lpk_n, lpk_j, lpk_r] <;> rfl
noncomputable def f_X3_isSpoiled (k : Nat) (x2 : Int32) (h : am_H) : Option Int32 :=
  f_X3_isSpoiled_2 k x2 (iI (0)) h
theorem c_X3_isSpoiled_L {k : Nat} (hk : k < 10) {h : am_H} {Q : Option am_v → am_H → Prop} : ∀ s, wp (lp (s_X3_isSpoiled k h) s) (fun a => Q (some (am_i a)) h) → ((∀ x2 x3, s = (2, [x2, x3], [], [], ()) → am_V RX3 cX3_isSpoiled 4 (some .boolean) 3 67 0 0 none (am_Tm cX3_isSpoiled (some .boolean) Q) 0 0 2 [some (am_r (.inl 1) 3), some (am_r (.inr k) 0), some (am_i x2), some (am_i x3)] [] h)) := by
  refine lp_ind _ _ (fun s H => fun x2 x3 e => ?_)
  · subst e
    rw [s_X3_isSpoiled] at H
    refine rl_i3 dX3_isSpoiled_2 ?_
    refine rl_a1 dX3_isSpoiled_3 ?_
    refine rg_R (.inr k) 17 dX3_isSpoiled_4 fg_X3_57 rfl rfl rfl (ok_P hk rfl) ?_
    refine ar_getI dX3_isSpoiled_7 fg_X3_72 rfl rfl (ok_P hk rfl) ?_
    refine ar_ic_ge 31 dX3_isSpoiled_10 (by decide) (fun c1 => ?_) (fun c1 => ?_)
    · replace H := wp_t c1 H
      refine ar_iconst (iI (0)) dX3_isSpoiled_31 rfl ?_
      replace H := lp_re H
      exact ar_iret dX3_isSpoiled_32 rfl rfl H
    · replace H := wp_f c1 H
      refine rl_a0 dX3_isSpoiled_13 ?_
      refine rl_a1 dX3_isSpoiled_14 ?_
      refine rl_i3 dX3_isSpoiled_15 ?_
      obtain ⟨a1, e1, H⟩ := wp_b H
      refine rc_V2i dX3_isSpoiled_16 ml_X3_73 mc_X3_letterSpoiledBy (c_X3_letterSpoiledBy hk e1) rfl rfl rfl (ok_X rfl) rfl rfl rfl ?_
      refine rl_i2 dX3_isSpoiled_19 ?_
      refine ar_ic_ne 25 dX3_isSpoiled_20 (by decide) (fun c2 => ?_) (fun c2 => ?_)
      · replace H := wp_f c2 H
        refine rn_1_3 dX3_isSpoiled_25 rfl trivial ?_
        refine ar_goto 2 dX3_isSpoiled_28 (by decide) ?_
        exact am_V.wk (am_s (am_s (am_s (am_s am_0)))) ((lp_in H) _ _ rfl)
      · replace H := wp_t c2 H
        refine ar_iconst (iI (1)) dX3_isSpoiled_23 rfl ?_
        replace H := lp_re H
        exact ar_iret dX3_isSpoiled_24 rfl rfl H
theorem c_X3_isSpoiled {k : Nat} (hk : k < 10) {x2 : Int32} {h : am_H} {a : Int32} (e : f_X3_isSpoiled k x2 h = some a) : am_Mi yX3_isSpoiled cX3_isSpoiled 4 (some .boolean) 3 67 [am_r (.inl 1) 3, am_r (.inr k) 0, am_i x2] h a h := by
  refine am_M.ofi (A := [some (am_r (.inl 1) 3), some (am_r (.inr k) 0), some (am_i x2), none]) (by decide +kernel) rfl (ble rfl) (fun Q hQ => ?_)
  have H : wp (f_X3_isSpoiled k x2 h) (fun a => Q (some (am_i a)) h) := ⟨_, e, hQ⟩
  unfold f_X3_isSpoiled at H
  refine ar_iconst (iI (0)) dX3_isSpoiled_0 rfl ?_
  refine rs_i3 dX3_isSpoiled_1 rfl trivial ?_
  exact am_V.wk (am_s (am_s (am_s (am_s am_0)))) ((c_X3_isSpoiled_L hk _ H) _ _ rfl)
noncomputable def s_X3_largestUnserved  (h : am_H) : am_S Unit → Option (am_S Unit ⊕ Int32) := fun s => match s with
  | (4, [x1, x2], [], [], ()) => if (h.1 (.inl 1) 3 4) ≤ x2 then (some (.inr (x1))) else (if ib x2 21 then (if (h.1 (.inl 1) 6 x2.toNatClampNeg) = 0 then (if x1 = (iI (-1)) then (some (.inl (4, [x2, (x2 + 1)], [], [], ()))) else (if ib x2 21 then (if ib x1 21 then (if (h.1 (.inl 1) 4 x2.toNatClampNeg) ≤ (h.1 (.inl 1) 4 x1.toNatClampNeg) then (some (.inl (4, [x1, (x2 + 1)], [], [], ()))) else (some (.inl (4, [x2, (x2 + 1)], [], [], ())))) else none) else none)) else (some (.inl (4, [x1, (x2 + 1)], [], [], ())))) else none)
  | _ => none
noncomputable def f_X3_largestUnserved_4  (x1 : Int32) (x2 : Int32) (h : am_H) : Option Int32 := lp (s_X3_largestUnserved h) (4, [x1, x2], [], [], ())
theorem e_X3_largestUnserved_4  (x1 : Int32) (x2 : Int32) (h : am_H) : f_X3_largestUnserved_4 x1 x2 h = (if (h.1 (.inl 1) 3 4) ≤ x2 then (some (x1)) else (if ib x2 21 then (if (h.1 (.inl 1) 6 x2.toNatClampNeg) = 0 then (if x1 = (iI (-1)) then (f_X3_largestUnserved_4 x2 (x2 + 1) h) else (if ib x2 21 then (if ib x1 21 then (if (h.1 (.inl 1) 4 x2.toNatClampNeg) ≤ (h.1 (.inl 1) 4 x1.toNatClampNeg) then (f_X3_largestUnserved_4 x1 (x2 + 1) h) else (f_X3_largestUnserved_4 x2 (x2 + 1) h)) else none) else none)) else (f_X3_largestUnserved_4 x1 (x2 + 1) h)) else none)) := by
  show lp _ _ = _
  rw [lp_eq, s_X3_largestUnserved]
  simp only [lpk_i, lpk_b, lpk_l, lpk_n, lpk_j, lpk_r] <;> rfl
noncomputable def f_X3_largestUnserved  (h : am_H) : Option Int32 :=
  f_X3_largestUnserved_4 (iI (-1)) (iI (0)) h
theorem c_X3_largestUnserved_L  {h : am_H} {Q : Option am_v → am_H → Prop} : ∀ s, wp (lp (s_X3_largestUnserved h) s) (fun a => Q (some (am_i a)) h) → ((∀ x1 x2, s = (4, [x1, x2], [], [], ()) → am_V RX3 cX3_largestUnserved 3 (some .int) 0 0 0 0 none (am_Tm cX3_largestUnserved (some .int) Q) 0 0 4 [some (am_r (.inl 1) 3), some (am_i x1), some (am_i x2)] [] h)) := by
  refine lp_ind _ _ (fun s H => fun x1 x2 e => ?_)
  · subst e
    rw [s_X3_largestUnserved] at H
    refine rl_i2 dX3_largestUnserved_4 ?_
    refine rl_a0 dX3_largestUnserved_5 ?_
    refine ar_getI dX3_largestUnserved_6 fg_X3_25 rfl rfl (ok_X rfl) ?_
    refine ar_ic_ge 49 dX3_largestUnserved_9 (by decide) (fun c1 => ?_) (fun c1 => ?_)
    · replace H := wp_t c1 H
      refine rl_i1 dX3_largestUnserved_49 ?_
      replace H := lp_re H
      exact ar_iret dX3_largestUnserved_50 rfl rfl H
    · replace H := wp_f c1 H
      refine rl_a0 dX3_largestUnserved_12 ?_
      refine rg_R (.inl 1) 6 dX3_largestUnserved_13 fg_X3_18 rfl rfl rfl (ok_X rfl) ?_
      refine rl_i2 dX3_largestUnserved_16 ?_
      obtain ⟨b1, H⟩ := wp_g H
      refine ar_zald dX3_largestUnserved_17 rfl (ok_X rfl) (ib_in b1) ?_
      refine ar_if_ne 43 dX3_largestUnserved_18 (by decide) (fun c2 => ?_) (fun c2 => ?_)
      · replace H := wp_f c2 H
        refine rn_1_2 dX3_largestUnserved_43 rfl trivial ?_
        refine ar_goto 4 dX3_largestUnserved_46 (by decide) ?_
        exact am_V.wk (am_s (am_s (am_s am_0))) ((lp_in H) _ _ rfl)
      · replace H := wp_t c2 H
        refine rl_i1 dX3_largestUnserved_21 ?_
        refine ar_iconst (iI (-1)) dX3_largestUnserved_22 rfl ?_
        refine ar_ic_eq 41 dX3_largestUnserved_23 (by decide) (fun c3 => ?_) (fun c3 => ?_)
        · replace H := wp_t c3 H
          refine rl_i2 dX3_largestUnserved_41 ?_
          refine rs_i1 dX3_largestUnserved_42 rfl trivial ?_
          refine rn_1_2 dX3_largestUnserved_43 rfl trivial ?_
          refine ar_goto 4 dX3_largestUnserved_46 (by decide) ?_
          exact am_V.wk (am_s (am_s (am_s am_0))) ((lp_in H) _ _ rfl)
        · replace H := wp_f c3 H
          refine rl_a0 dX3_largestUnserved_26 ?_
          refine rg_R (.inl 1) 4 dX3_largestUnserved_27 fg_X3_9 rfl rfl rfl (ok_X rfl) ?_
          refine rl_i2 dX3_largestUnserved_30 ?_
          obtain ⟨b2, H⟩ := wp_g H
          refine ar_iald dX3_largestUnserved_31 rfl (ok_X rfl) (ib_in b2) ?_
          refine rl_a0 dX3_largestUnserved_32 ?_
          refine rg_R (.inl 1) 4 dX3_largestUnserved_33 fg_X3_9 rfl rfl rfl (ok_X rfl) ?_
          refine rl_i1 dX3_largestUnserved_36 ?_
          obtain ⟨b3, H⟩ := wp_g H
          refine ar_iald dX3_largestUnserved_37 rfl (ok_X rfl) (ib_in b3) ?_
          refine ar_ic_le 43 dX3_largestUnserved_38 (by decide) (fun c4 => ?_) (fun c4 => ?_)
          · replace H := wp_t c4 H
            refine rn_1_2 dX3_largestUnserved_43 rfl trivial ?_
            refine ar_goto 4 dX3_largestUnserved_46 (by decide) ?_
            exact am_V.wk (am_s (am_s (am_s am_0))) ((lp_in H) _ _ rfl)
          · replace H := wp_f c4 H
            refine rl_i2 dX3_largestUnserved_41 ?_
            refine rs_i1 dX3_largestUnserved_42 rfl trivial ?_
            refine rn_1_2 dX3_largestUnserved_43 rfl trivial ?_
            refine ar_goto 4 dX3_largestUnserved_46 (by decide) ?_
            exact am_V.wk (am_s (am_s (am_s am_0))) ((lp_in H) _ _ rfl)
theorem c_X3_largestUnserved  {h : am_H} {a : Int32} (e : f_X3_largestUnserved h = some a) : am_Mi yX3_largestUnserved cX3_largestUnserved 3 (some .int) 0 0 [am_r (.inl 1) 3] h a h := by
  refine am_M.ofi (A := [some (am_r (.inl 1) 3), none, none]) (by decide +kernel) rfl (ble rfl) (fun Q hQ => ?_)
  have H : wp (f_X3_largestUnserved h) (fun a => Q (some (am_i a)) h) := ⟨_, e, hQ⟩
  unfold f_X3_largestUnserved at H
  refine ar_iconst (iI (-1)) dX3_largestUnserved_0 rfl ?_
  refine rs_i1 dX3_largestUnserved_1 rfl trivial ?_
  refine ar_iconst (iI (0)) dX3_largestUnserved_2 rfl ?_
  refine rs_i2 dX3_largestUnserved_3 rfl trivial ?_
  exact am_V.wk (am_s (am_s (am_s am_0))) ((c_X3_largestUnserved_L  _ H) _ _ rfl)
noncomputable def s_X3_bestKind (k : Nat) (h : am_H) : am_S Unit → Option (am_S Unit ⊕ Int32) := fun s => match s with
  | (5, [x2, x3, x4], [], [], ()) => if (h.1 (.inr k) 11 4) ≤ x4 then (some (.inr (x3))) else (if ib x4 6 then (if (h.1 (.inl 1) 7 x4.toNatClampNeg) ≤ 0 then (some (.inl (44, [x2, x3, x4, (iI (0))], [], [], ()))) else (if ib x4 6 then (if x2 < ((iI (1000)) * (h.1 (.inr k) 13 x4.toNatClampNeg)) then (some (.inl (44, [x2, x3, x4, (iI (0))], [], [], ()))) else (some (.inl (44, [x2, x3, x4, (iI (1))], [], [], ())))) else none)) else none)
  | (44, [x2, x3, x4, y0], [], [], ()) => if y0 = 0 then (some (.inl (5, [x2, x3, (x4 + 1)], [], [], ()))) else (if x3 = (iI (-1)) then (some (.inl (5, [x2, x4, (x4 + 1)], [], [], ()))) else (if ib x4 6 then (if ib x3 6 then (if (h.1 (.inr k) 14 x4.toNatClampNeg) ≤ (h.1 (.inr k) 14 x3.toNatClampNeg) then (some (.inl (5, [x2, x3, (x4 + 1)], [], [], ()))) else (some (.inl (5, [x2, x4, (x4 + 1)], [], [], ())))) else none) else none))
  | _ => none
noncomputable def f_X3_bestKind_5 (k : Nat) (x2 : Int32) (x3 : Int32) (x4 : Int32) (h : am_H) : Option Int32 := lp (s_X3_bestKind k h) (5, [x2, x3, x4], [], [], ())
noncomputable def f_X3_bestKind_44 (k : Nat) (x2 : Int32) (x3 : Int32) (x4 : Int32) (y0 : Int32) (h : am_H) : Option Int32 := lp (s_X3_bestKind k h) (44, [x2, x3, x4, y0], [], [], ())
theorem e_X3_bestKind_5 (k : Nat) (x2 : Int32) (x3 : Int32) (x4 : Int32) (h : am_H) : f_X3_bestKind_5 k x2 x3 x4 h = (if (h.1 (.inr k) 11 4) ≤ x4 then (some (x3)) else (if ib x4 6 then (if (h.1 (.inl 1) 7 x4.toNatClampNeg) ≤ 0 then (f_X3_bestKind_44 k x2 x3 x4 (iI (0)) h) else (if ib x4 6 then (if x2 < ((iI (1000)) * (h.1 (.inr k) 13 x4.toNatClampNeg)) then (f_X3_bestKind_44 k x2 x3 x4 (iI (0)) h) else (f_X3_bestKind_44 k x2 x3 x4 (iI (1)) h)) else none)) else none)) := by
  show lp _ _ = _
  rw [lp_eq, s_X3_bestKind]
  simp only [lpk_i, lpk_b, lpk_l, lpk_n, lpk_j, lpk_r] <;> rfl
theorem e_X3_bestKind_44 (k : Nat) (x2 : Int32) (x3 : Int32) (x4 : Int32) (y0 : Int32) (h : am_H) : f_X3_bestKind_44 k x2 x3 x4 y0 h = (if y0 = 0 then (f_X3_bestKind_5 k x2 x3 (x4 + 1) h) else (if x3 = (iI (-1)) then (f_X3_bestKind_5 k x2 x4 (x4 + 1) h) else (if ib x4 6 then (if ib x3 6 then (if (h.1 (.inr k) 14 x4.toNatClampNeg) ≤ (h.1 (.inr k) 14 x3.toNatClampNeg) then (f_X3_bestKind_5 k x2 x3 (x4 + 1) h) else (f_X3_bestKind_5 k x2 x4 (x4 + 1) h)) else none) else none))) := by
  show lp _ _ = _
  rw [lp_eq, s_X3_bestKind]
  simp only [lpk_i, lpk_b, lpk_l, lpk_n, lpk_j, lpk_r] <;> rfl
noncomputable def f_X3_bestKind (k : Nat) (x2 : Int32) (h : am_H) : Option Int32 :=
  f_X3_bestKind_5 k x2 (iI (-1)) (iI (0)) h
theorem c_X3_bestKind_L {k : Nat} (hk : k < 10) {h : am_H} {Q : Option am_v → am_H → Prop} : ∀ s, wp (lp (s_X3_bestKind k h) s) (fun a => Q (some (am_i a)) h) → ((∀ x2 x3 x4, s = (5, [x2, x3, x4], [], [], ()) → am_V RX3 cX3_bestKind 6 (some .int) 0 0 0 0 none (am_Tm cX3_bestKind (some .int) Q) 0 0 5 [some (am_r (.inl 1) 3), some (am_r (.inr k) 11), some (am_i x2), some (am_i x3), some (am_i x4), none] [] h) ∧ (∀ x2 x3 x4 y0, s = (44, [x2, x3, x4, y0], [], [], ()) → am_V RX3 cX3_bestKind 6 (some .int) 0 0 0 0 none (am_Tm cX3_bestKind (some .int) Q) 0 0 44 [some (am_r (.inl 1) 3), some (am_r (.inr k) 11), some (am_i x2), some (am_i x3), some (am_i x4), none] [am_i y0] h)) := by
  refine lp_ind _ _ (fun s H => ⟨fun x2 x3 x4 e => ?_, fun x2 x3 x4 y0 e => ?_⟩)
  · subst e
    rw [s_X3_bestKind] at H
    refine rl_i4 dX3_bestKind_5 ?_
    refine rl_a1 dX3_bestKind_7 ?_
    refine ar_getI dX3_bestKind_8 fg_X3_85 rfl rfl (ok_P hk rfl) ?_
    refine ar_ic_ge 81 dX3_bestKind_11 (by decide) (fun c1 => ?_) (fun c1 => ?_)
    · replace H := wp_t c1 H
      refine rl_i3 dX3_bestKind_81 ?_
      replace H := lp_re H
      exact ar_iret dX3_bestKind_82 rfl rfl H
    · replace H := wp_f c1 H
      refine rl_a0 dX3_bestKind_14 ?_
      refine rg_R (.inl 1) 7 dX3_bestKind_15 fg_X3_22 rfl rfl rfl (ok_X rfl) ?_
      refine rl_i4 dX3_bestKind_18 ?_
      obtain ⟨b1, H⟩ := wp_g H
      refine ar_iald dX3_bestKind_20 rfl (ok_X rfl) (ib_in b1) ?_
      refine ar_if_le 43 dX3_bestKind_21 (by decide) (fun c2 => ?_) (fun c2 => ?_)
      · replace H := wp_t c2 H
        refine ar_iconst (iI (0)) dX3_bestKind_43 rfl ?_
        exact am_V.wk (am_s (am_s (am_s (am_s (am_s (am_n am_0)))))) ((lp_in H).2 _ _ _ _ rfl)
      · replace H := wp_f c2 H
        refine ar_sipush (iI (1000)) dX3_bestKind_24 rfl ?_
        refine rl_a1 dX3_bestKind_27 ?_
        refine rg_R (.inr k) 13 dX3_bestKind_28 fg_X3_104 rfl rfl rfl (ok_P hk rfl) ?_
        refine rl_i4 dX3_bestKind_31 ?_
        obtain ⟨b2, H⟩ := wp_g H
        refine ar_iald dX3_bestKind_33 rfl (ok_P hk rfl) (ib_in b2) ?_
        refine ar_imul dX3_bestKind_34 ?_
        refine rl_i2 dX3_bestKind_35 ?_
        refine ar_ic_gt 43 dX3_bestKind_36 (by decide) (fun c3 => ?_) (fun c3 => ?_)
        · replace H := wp_t c3 H
          refine ar_iconst (iI (0)) dX3_bestKind_43 rfl ?_
          exact am_V.wk (am_s (am_s (am_s (am_s (am_s (am_n am_0)))))) ((lp_in H).2 _ _ _ _ rfl)
        · replace H := wp_f c3 H
          refine ar_iconst (iI (1)) dX3_bestKind_39 rfl ?_
          refine ar_goto 44 dX3_bestKind_40 (by decide) ?_
          exact am_V.wk (am_s (am_s (am_s (am_s (am_s (am_n am_0)))))) ((lp_in H).2 _ _ _ _ rfl)
  · subst e
    rw [s_X3_bestKind] at H
    refine rs_i5 dX3_bestKind_44 rfl trivial ?_
    refine rl_i5 dX3_bestKind_46 ?_
    refine ar_if_eq 75 dX3_bestKind_48 (by decide) (fun c1 => ?_) (fun c1 => ?_)
    · replace H := wp_t c1 H
      refine rn_1_4 dX3_bestKind_75 rfl trivial ?_
      refine ar_goto 5 dX3_bestKind_78 (by decide) ?_
      exact am_V.wk (am_s (am_s (am_s (am_s (am_s (am_n am_0)))))) ((lp_in H).1 _ _ _ rfl)
    · replace H := wp_f c1 H
      refine rl_i3 dX3_bestKind_51 ?_
      refine ar_iconst (iI (-1)) dX3_bestKind_52 rfl ?_
      refine ar_ic_eq 72 dX3_bestKind_53 (by decide) (fun c2 => ?_) (fun c2 => ?_)
      · replace H := wp_t c2 H
        refine rl_i4 dX3_bestKind_72 ?_
        refine rs_i3 dX3_bestKind_74 rfl trivial ?_
        refine rn_1_4 dX3_bestKind_75 rfl trivial ?_
        refine ar_goto 5 dX3_bestKind_78 (by decide) ?_
        exact am_V.wk (am_s (am_s (am_s (am_s (am_s (am_n am_0)))))) ((lp_in H).1 _ _ _ rfl)
      · replace H := wp_f c2 H
        refine rl_a1 dX3_bestKind_56 ?_
        refine rg_R (.inr k) 14 dX3_bestKind_57 fg_X3_107 rfl rfl rfl (ok_P hk rfl) ?_
        refine rl_i4 dX3_bestKind_60 ?_
        obtain ⟨b1, H⟩ := wp_g H
        refine ar_iald dX3_bestKind_62 rfl (ok_P hk rfl) (ib_in b1) ?_
        refine rl_a1 dX3_bestKind_63 ?_
        refine rg_R (.inr k) 14 dX3_bestKind_64 fg_X3_107 rfl rfl rfl (ok_P hk rfl) ?_
        refine rl_i3 dX3_bestKind_67 ?_
        obtain ⟨b2, H⟩ := wp_g H
        refine ar_iald dX3_bestKind_68 rfl (ok_P hk rfl) (ib_in b2) ?_
        refine ar_ic_le 75 dX3_bestKind_69 (by decide) (fun c3 => ?_) (fun c3 => ?_)
        · replace H := wp_t c3 H
          refine rn_1_4 dX3_bestKind_75 rfl trivial ?_
          refine ar_goto 5 dX3_bestKind_78 (by decide) ?_
          exact am_V.wk (am_s (am_s (am_s (am_s (am_s (am_n am_0)))))) ((lp_in H).1 _ _ _ rfl)
        · replace H := wp_f c3 H
          refine rl_i4 dX3_bestKind_72 ?_
          refine rs_i3 dX3_bestKind_74 rfl trivial ?_
          refine rn_1_4 dX3_bestKind_75 rfl trivial ?_
          refine ar_goto 5 dX3_bestKind_78 (by decide) ?_
          exact am_V.wk (am_s (am_s (am_s (am_s (am_s (am_n am_0)))))) ((lp_in H).1 _ _ _ rfl)
theorem c_X3_bestKind {k : Nat} (hk : k < 10) {x2 : Int32} {h : am_H} {a : Int32} (e : f_X3_bestKind k x2 h = some a) : am_Mi yX3_bestKind cX3_bestKind 6 (some .int) 0 0 [am_r (.inl 1) 3, am_r (.inr k) 11, am_i x2] h a h := by
  refine am_M.ofi (A := [some (am_r (.inl 1) 3), some (am_r (.inr k) 11), some (am_i x2), none, none, none]) (by decide +kernel) rfl (ble rfl) (fun Q hQ => ?_)
  have H : wp (f_X3_bestKind k x2 h) (fun a => Q (some (am_i a)) h) := ⟨_, e, hQ⟩
  unfold f_X3_bestKind at H
  refine ar_iconst (iI (-1)) dX3_bestKind_0 rfl ?_
  refine rs_i3 dX3_bestKind_1 rfl trivial ?_
  refine ar_iconst (iI (0)) dX3_bestKind_2 rfl ?_
  refine rs_i4 dX3_bestKind_3 rfl trivial ?_
  exact am_V.wk (am_s (am_s (am_s (am_s (am_s (am_n am_0)))))) ((c_X3_bestKind_L hk _ H).1 _ _ _ rfl)
noncomputable def f_X3_fillLargest (k : Nat) (h : am_H) : Option am_H :=
  (f_X3_largestUnserved h).bind (fun a1 => if a1 = (iI (-1)) then (some (h)) else (if ib a1 21 then (am_lt (am_u h (.inl 1) 6 a1.toNatClampNeg (vp_nar .boolean (iI (1)))) (fun h1 => if ib a1 21 then ((f_X3_bestKind k ((h1.1 (.inl 1) 4 a1.toNatClampNeg) - ((iI (200)) * (h1.1 (.inr k) 0 5))) h1).bind (fun a2 => if ib a1 21 then (am_lt (am_u h1 (.inl 1) 5 a1.toNatClampNeg a2) (fun h2 => if a2 = (iI (-1)) then (some (h2)) else (if ib a2 6 then (if ib a2 6 then (am_lt (am_u h2 (.inl 1) 7 a2.toNatClampNeg ((h2.1 (.inl 1) 7 a2.toNatClampNeg) - (iI (1)))) (fun h3 => some (h3))) else none) else none))) else none)) else none)) else none))
theorem c_X3_fillLargest {k : Nat} (hk : k < 10) {h : am_H} {a : am_H} (e : f_X3_fillLargest k h = some a) : am_Mv yX3_fillLargest cX3_fillLargest 4 (none) 1 25 [am_r (.inl 1) 3, am_r (.inr k) 0] h a := by
  refine am_M.ofv (A := [some (am_r (.inl 1) 3), some (am_r (.inr k) 0), none, none]) (by decide +kernel) rfl (ble rfl) (fun Q hQ => ?_)
  have H : wp (f_X3_fillLargest k h) (fun a => Q none a) := ⟨_, e, hQ⟩
  unfold f_X3_fillLargest at H
  refine rl_a0 dX3_fillLargest_0 ?_
  obtain ⟨a1, e1, H⟩ := wp_b H
  refine rc_V0i dX3_fillLargest_1 ml_X3_94 mc_X3_largestUnserved (c_X3_largestUnserved e1) rfl rfl rfl (ok_X rfl) rfl rfl rfl ?_
  refine rs_i2 dX3_fillLargest_4 rfl trivial ?_
  refine rl_i2 dX3_fillLargest_5 ?_
  refine ar_iconst (iI (-1)) dX3_fillLargest_6 rfl ?_
  refine ar_ic_eq 63 dX3_fillLargest_7 (by decide) (fun c1 => ?_) (fun c1 => ?_)
  · replace H := wp_t c1 H
    replace H := wp_s H
    exact ar_vret dX3_fillLargest_63 rfl H
  · replace H := wp_f c1 H
    refine rl_a0 dX3_fillLargest_10 ?_
    refine rg_R (.inl 1) 6 dX3_fillLargest_11 fg_X3_18 rfl rfl rfl (ok_X rfl) ?_
    refine rl_i2 dX3_fillLargest_14 ?_
    refine ar_iconst (iI (1)) dX3_fillLargest_15 rfl ?_
    obtain ⟨b1, H⟩ := wp_g H
    refine ar_zast dX3_fillLargest_16 rfl (ok_X rfl) (ib_in b1) ?_
    replace H := wp_l H
    generalize am_u h (.inl 1) 6 a1.toNatClampNeg (vp_nar .boolean (iI (1))) = h1 at H ⊢
    refine rl_a0 dX3_fillLargest_17 ?_
    refine rl_a1 dX3_fillLargest_18 ?_
    refine rg_R (.inr k) 11 dX3_fillLargest_19 fg_X3_81 rfl rfl rfl (ok_P hk rfl) ?_
    refine rl_a0 dX3_fillLargest_22 ?_
    refine rg_R (.inl 1) 4 dX3_fillLargest_23 fg_X3_9 rfl rfl rfl (ok_X rfl) ?_
    refine rl_i2 dX3_fillLargest_26 ?_
    obtain ⟨b2, H⟩ := wp_g H
    refine ar_iald dX3_fillLargest_27 rfl (ok_X rfl) (ib_in b2) ?_
    refine ar_sipush (iI (200)) dX3_fillLargest_28 rfl ?_
    refine rl_a1 dX3_fillLargest_31 ?_
    refine ar_getI dX3_fillLargest_32 fg_X3_97 rfl rfl (ok_P hk rfl) ?_
    refine ar_imul dX3_fillLargest_35 ?_
    refine ar_isub dX3_fillLargest_36 ?_
    obtain ⟨a2, e2, H⟩ := wp_b H
    refine rc_V2i dX3_fillLargest_37 ml_X3_100 mc_X3_bestKind (c_X3_bestKind hk e2) rfl rfl rfl (ok_X rfl) rfl rfl rfl ?_
    refine rs_i3 dX3_fillLargest_40 rfl trivial ?_
    refine rl_a0 dX3_fillLargest_41 ?_
    refine rg_R (.inl 1) 5 dX3_fillLargest_42 fg_X3_15 rfl rfl rfl (ok_X rfl) ?_
    refine rl_i2 dX3_fillLargest_45 ?_
    refine rl_i3 dX3_fillLargest_46 ?_
    obtain ⟨b3, H⟩ := wp_g H
    refine ar_iast dX3_fillLargest_47 rfl (ok_X rfl) (ib_in b3) ?_
    replace H := wp_l H
    generalize am_u h1 (.inl 1) 5 a1.toNatClampNeg a2 = h2 at H ⊢
    refine rl_i3 dX3_fillLargest_48 ?_
    refine ar_iconst (iI (-1)) dX3_fillLargest_49 rfl ?_
    refine ar_ic_eq 63 dX3_fillLargest_50 (by decide) (fun c2 => ?_) (fun c2 => ?_)
    · replace H := wp_t c2 H
      replace H := wp_s H
      exact ar_vret dX3_fillLargest_63 rfl H
    · replace H := wp_f c2 H
      refine rl_a0 dX3_fillLargest_53 ?_
      refine rg_R (.inl 1) 7 dX3_fillLargest_54 fg_X3_22 rfl rfl rfl (ok_X rfl) ?_
      refine rl_i3 dX3_fillLargest_57 ?_
      refine ar_dup2 dX3_fillLargest_58 trivial trivial ?_
      obtain ⟨b4, H⟩ := wp_g H
      refine ar_iald dX3_fillLargest_59 rfl (ok_X rfl) (ib_in b4) ?_
      refine ar_iconst (iI (1)) dX3_fillLargest_60 rfl ?_
      refine ar_isub dX3_fillLargest_61 ?_
      obtain ⟨b5, H⟩ := wp_g H
      refine ar_iast dX3_fillLargest_62 rfl (ok_X rfl) (ib_in b5) ?_
      replace H := wp_l H
      generalize am_u h2 (.inl 1) 7 a2.toNatClampNeg ((h2.1 (.inl 1) 7 a2.toNatClampNeg) - (iI (1))) = h3 at H ⊢
      replace H := wp_s H
      exact ar_vret dX3_fillLargest_63 rfl H
noncomputable def s_X3_fill (k : Nat) : am_S am_H → Option (am_S am_H ⊕ am_H) := fun s => match s with
  | (7, [x2], [], [], h) => if (h.1 (.inr k) 11 4) ≤ x2 then (some (.inl (41, [(iI (0))], [], [], h))) else (if ib x2 6 then (if ib x2 6 then (am_lt (am_u h (.inl 1) 7 x2.toNatClampNeg (h.1 (.inr k) 15 x2.toNatClampNeg)) (fun h1 => some (.inl (7, [(x2 + 1)], [], [], h1)))) else none) else none)
  | (41, [x2], [], [], h) => if (h.1 (.inl 1) 3 4) ≤ x2 then (some (.inl (71, [(iI (0))], [], [], h))) else (if ib x2 21 then (am_lt (am_u h (.inl 1) 5 x2.toNatClampNeg (iI (-1))) (fun h1 => if ib x2 21 then (am_lt (am_u h1 (.inl 1) 6 x2.toNatClampNeg (vp_nar .boolean (iI (0)))) (fun h2 => some (.inl (41, [(x2 + 1)], [], [], h2)))) else none)) else none)
  | (71, [x2], [], [], h) => if (h.1 (.inl 1) 3 4) ≤ x2 then (some (.inr (h))) else ((f_X3_fillLargest k h).bind (fun a1 => some (.inl (71, [(x2 + 1)], [], [], a1))))
  | _ => none
noncomputable def f_X3_fill_7 (k : Nat) (x2 : Int32) (h : am_H) : Option am_H := lp (s_X3_fill k) (7, [x2], [], [], h)
noncomputable def f_X3_fill_41 (k : Nat) (x2 : Int32) (h : am_H) : Option am_H := lp (s_X3_fill k) (41, [x2], [], [], h)
noncomputable def f_X3_fill_71 (k : Nat) (x2 : Int32) (h : am_H) : Option am_H := lp (s_X3_fill k) (71, [x2], [], [], h)
theorem e_X3_fill_7 (k : Nat) (x2 : Int32) (h : am_H) : f_X3_fill_7 k x2 h = (if (h.1 (.inr k) 11 4) ≤ x2 then (f_X3_fill_41 k (iI (0)) h) else (if ib x2 6 then (if ib x2 6 then (am_lt (am_u h (.inl 1) 7 x2.toNatClampNeg (h.1 (.inr k) 15 x2.toNatClampNeg)) (fun h1 => f_X3_fill_7 k (x2 + 1) h1)) else none) else none)) := by
  show lp _ _ = _
  rw [lp_eq, s_X3_fill]
  simp only [lpk_i, lpk_b, lpk_l, lpk_n, lpk_j, lpk_r] <;> rfl
theorem e_X3_fill_41 (k : Nat) (x2 : Int32) (h : am_H) : f_X3_fill_41 k x2 h = (if (h.1 (.inl 1) 3 4) ≤ x2 then (f_X3_fill_71 k (iI (0)) h) else (if ib x2 21 then (am_lt (am_u h (.inl 1) 5 x2.toNatClampNeg (iI (-1))) (fun h1 => if ib x2 21 then (am_lt (am_u h1 (.inl 1) 6 x2.toNatClampNeg (vp_nar .boolean (iI (0)))) (fun h2 => f_X3_fill_41 k (x2 + 1) h2)) else none)) else none)) := by
  show lp _ _ = _
  rw [lp_eq, s_X3_fill]
  simp only [lpk_i, lpk_b, lpk_l, lpk_n, lpk_j, lpk_r] <;> rfl
theorem e_X3_fill_71 (k : Nat) (x2 : Int32) (h : am_H) : f_X3_fill_71 k x2 h = (if (h.1 (.inl 1) 3 4) ≤ x2 then (some (h)) else ((f_X3_fillLargest k h).bind (fun a1 => f_X3_fill_71 k (x2 + 1) a1))) := by
  show lp _ _ = _
  rw [lp_eq, s_X3_fill]
  simp only [lpk_i, lpk_b, lpk_l, lpk_n, lpk_j, lpk_r] <;> rfl
noncomputable def f_X3_fill (k : Nat) (h : am_H) : Option am_H :=
  (f_X3_measure k h).bind (fun a1 => f_X3_fill_7 k (iI (0)) a1)
theorem c_X3_fill_L {k : Nat} (hk : k < 10) {Q : Option am_v → am_H → Prop} : ∀ s, wp (lp (s_X3_fill k) s) (fun a => Q none a) → ((∀ x2 h, s = (7, [x2], [], [], h) → am_V RX3 cX3_fill 3 (none) 4 93 0 0 none (am_Tm cX3_fill (none) Q) 0 0 7 [some (am_r (.inl 1) 3), some (am_r (.inr k) 0), some (am_i x2)] [] h) ∧ (∀ x2 h, s = (41, [x2], [], [], h) → am_V RX3 cX3_fill 3 (none) 4 93 0 0 none (am_Tm cX3_fill (none) Q) 0 0 41 [some (am_r (.inl 1) 3), some (am_r (.inr k) 0), some (am_i x2)] [] h) ∧ (∀ x2 h, s = (71, [x2], [], [], h) → am_V RX3 cX3_fill 3 (none) 4 93 0 0 none (am_Tm cX3_fill (none) Q) 0 0 71 [some (am_r (.inl 1) 3), some (am_r (.inr k) 0), some (am_i x2)] [] h)) := by
  refine lp_ind _ _ (fun s H => ⟨fun x2 h e => ?_, fun x2 h e => ?_, fun x2 h e => ?_⟩)
  · subst e
    rw [s_X3_fill] at H
    refine rl_i2 dX3_fill_7 ?_
    refine rl_a1 dX3_fill_8 ?_
    refine rg_R (.inr k) 11 dX3_fill_9 fg_X3_81 rfl rfl rfl (ok_P hk rfl) ?_
    refine ar_getI dX3_fill_12 fg_X3_85 rfl rfl (ok_P hk rfl) ?_
    refine ar_ic_ge 39 dX3_fill_15 (by decide) (fun c1 => ?_) (fun c1 => ?_)
    · replace H := wp_t c1 H
      refine ar_iconst (iI (0)) dX3_fill_39 rfl ?_
      refine rs_i2 dX3_fill_40 rfl trivial ?_
      exact am_V.wk (am_s (am_s (am_s am_0))) ((lp_in H).2.1 _ _ rfl)
    · replace H := wp_f c1 H
      refine rl_a0 dX3_fill_18 ?_
      refine rg_R (.inl 1) 7 dX3_fill_19 fg_X3_22 rfl rfl rfl (ok_X rfl) ?_
      refine rl_i2 dX3_fill_22 ?_
      refine rl_a1 dX3_fill_23 ?_
      refine rg_R (.inr k) 11 dX3_fill_24 fg_X3_81 rfl rfl rfl (ok_P hk rfl) ?_
      refine rg_R (.inr k) 15 dX3_fill_27 fg_X3_88 rfl rfl rfl (ok_P hk rfl) ?_
      refine rl_i2 dX3_fill_30 ?_
      obtain ⟨b1, H⟩ := wp_g H
      refine ar_iald dX3_fill_31 rfl (ok_P hk rfl) (ib_in b1) ?_
      obtain ⟨b2, H⟩ := wp_g H
      refine ar_iast dX3_fill_32 rfl (ok_X rfl) (ib_in b2) ?_
      replace H := wp_l H
      generalize am_u h (.inl 1) 7 x2.toNatClampNeg (h.1 (.inr k) 15 x2.toNatClampNeg) = h1 at H ⊢
      refine rn_1_2 dX3_fill_33 rfl trivial ?_
      refine ar_goto 7 dX3_fill_36 (by decide) ?_
      exact am_V.wk (am_s (am_s (am_s am_0))) ((lp_in H).1 _ _ rfl)
  · subst e
    rw [s_X3_fill] at H
    refine rl_i2 dX3_fill_41 ?_
    refine rl_a0 dX3_fill_42 ?_
    refine ar_getI dX3_fill_43 fg_X3_25 rfl rfl (ok_X rfl) ?_
    refine ar_ic_ge 69 dX3_fill_46 (by decide) (fun c1 => ?_) (fun c1 => ?_)
    · replace H := wp_t c1 H
      refine ar_iconst (iI (0)) dX3_fill_69 rfl ?_
      refine rs_i2 dX3_fill_70 rfl trivial ?_
      exact am_V.wk (am_s (am_s (am_s am_0))) ((lp_in H).2.2 _ _ rfl)
    · replace H := wp_f c1 H
      refine rl_a0 dX3_fill_49 ?_
      refine rg_R (.inl 1) 5 dX3_fill_50 fg_X3_15 rfl rfl rfl (ok_X rfl) ?_
      refine rl_i2 dX3_fill_53 ?_
      refine ar_iconst (iI (-1)) dX3_fill_54 rfl ?_
      obtain ⟨b1, H⟩ := wp_g H
      refine ar_iast dX3_fill_55 rfl (ok_X rfl) (ib_in b1) ?_
      replace H := wp_l H
      generalize am_u h (.inl 1) 5 x2.toNatClampNeg (iI (-1)) = h1 at H ⊢
      refine rl_a0 dX3_fill_56 ?_
      refine rg_R (.inl 1) 6 dX3_fill_57 fg_X3_18 rfl rfl rfl (ok_X rfl) ?_
      refine rl_i2 dX3_fill_60 ?_
      refine ar_iconst (iI (0)) dX3_fill_61 rfl ?_
      obtain ⟨b2, H⟩ := wp_g H
      refine ar_zast dX3_fill_62 rfl (ok_X rfl) (ib_in b2) ?_
      replace H := wp_l H
      generalize am_u h1 (.inl 1) 6 x2.toNatClampNeg (vp_nar .boolean (iI (0))) = h2 at H ⊢
      refine rn_1_2 dX3_fill_63 rfl trivial ?_
      refine ar_goto 41 dX3_fill_66 (by decide) ?_
      exact am_V.wk (am_s (am_s (am_s am_0))) ((lp_in H).2.1 _ _ rfl)
  · subst e
    rw [s_X3_fill] at H
    refine rl_i2 dX3_fill_71 ?_
    refine rl_a0 dX3_fill_72 ?_
    refine ar_getI dX3_fill_73 fg_X3_25 rfl rfl (ok_X rfl) ?_
    refine ar_ic_ge 90 dX3_fill_76 (by decide) (fun c1 => ?_) (fun c1 => ?_)
    · replace H := wp_t c1 H
      replace H := lp_re H
      exact ar_vret dX3_fill_90 rfl H
    · replace H := wp_f c1 H
      refine rl_a0 dX3_fill_79 ?_
      refine rl_a1 dX3_fill_80 ?_
      obtain ⟨a1, e1, H⟩ := wp_b H
      refine rc_V1v dX3_fill_81 ml_X3_91 mc_X3_fillLargest (c_X3_fillLargest hk e1) rfl rfl rfl (ok_X rfl) rfl rfl rfl ?_
      refine rn_1_2 dX3_fill_84 rfl trivial ?_
      refine ar_goto 71 dX3_fill_87 (by decide) ?_
      exact am_V.wk (am_s (am_s (am_s am_0))) ((lp_in H).2.2 _ _ rfl)
theorem c_X3_fill {k : Nat} (hk : k < 10) {h : am_H} {a : am_H} (e : f_X3_fill k h = some a) : am_Mv yX3_fill cX3_fill 3 (none) 4 93 [am_r (.inl 1) 3, am_r (.inr k) 0] h a := by
  refine am_M.ofv (A := [some (am_r (.inl 1) 3), some (am_r (.inr k) 0), none]) (by decide +kernel) rfl (ble rfl) (fun Q hQ => ?_)
  have H : wp (f_X3_fill k h) (fun a => Q none a) := ⟨_, e, hQ⟩
  unfold f_X3_fill at H
  refine rl_a0 dX3_fill_0 ?_
  refine rl_a1 dX3_fill_1 ?_
  obtain ⟨a1, e1, H⟩ := wp_b H
  refine rc_V1v dX3_fill_2 ml_X3_77 mc_X3_measure (c_X3_measure hk e1) rfl rfl rfl (ok_X rfl) rfl rfl rfl ?_
  refine ar_iconst (iI (0)) dX3_fill_5 rfl ?_
  refine rs_i2 dX3_fill_6 rfl trivial ?_
  exact am_V.wk (am_s (am_s (am_s am_0))) ((c_X3_fill_L hk _ H).1 _ _ rfl)
noncomputable def s_X3_worthOfFillings (k : Nat) (h : am_H) : am_S Unit → Option (am_S Unit ⊕ Int32) := fun s => match s with
  | (4, [x2, x3], [], [], ()) => if (h.1 (.inl 1) 3 4) ≤ x3 then (some (.inr (x2))) else (if ib x3 21 then (if (h.1 (.inl 1) 5 x3.toNatClampNeg) = (iI (-1)) then (some (.inl (4, [x2, (x3 + 1)], [], [], ()))) else (if ib x3 21 then (if ib (h.1 (.inl 1) 5 x3.toNatClampNeg) 6 then (some (.inl (4, [(x2 + (h.1 (.inr k) 14 ((h.1 (.inl 1) 5 x3.toNatClampNeg)).toNatClampNeg)), (x3 + 1)], [], [], ()))) else none) else none)) else none)
  | _ => none
noncomputable def f_X3_worthOfFillings_4 (k : Nat) (x2 : Int32) (x3 : Int32) (h : am_H) : Option Int32 := lp (s_X3_worthOfFillings k h) (4, [x2, x3], [], [], ())
theorem e_X3_worthOfFillings_4 (k : Nat) (x2 : Int32) (x3 : Int32) (h : am_H) : f_X3_worthOfFillings_4 k x2 x3 h = (if (h.1 (.inl 1) 3 4) ≤ x3 then (some (x2)) else (if ib x3 21 then (if (h.1 (.inl 1) 5 x3.toNatClampNeg) = (iI (-1)) then (f_X3_worthOfFillings_4 k x2 (x3 + 1) h) else (if ib x3 21 then (if ib (h.1 (.inl 1) 5 x3.toNatClampNeg) 6 then (f_X3_worthOfFillings_4 k (x2 + (h.1 (.inr k) 14 ((h.1 (.inl 1) 5 x3.toNatClampNeg)).toNatClampNeg)) (x3 + 1) h) else none) else none)) else none)) := by
  show lp _ _ = _
  rw [lp_eq, s_X3_worthOfFillings]
  simp only [lpk_i, lpk_b, lpk_l, lpk_n, lpk_j, lpk_r] <;> rfl
noncomputable def f_X3_worthOfFillings (k : Nat) (h : am_H) : Option Int32 :=
  f_X3_worthOfFillings_4 k (iI (0)) (iI (0)) h
theorem c_X3_worthOfFillings_L {k : Nat} (hk : k < 10) {h : am_H} {Q : Option am_v → am_H → Prop} : ∀ s, wp (lp (s_X3_worthOfFillings k h) s) (fun a => Q (some (am_i a)) h) → ((∀ x2 x3, s = (4, [x2, x3], [], [], ()) → am_V RX3 cX3_worthOfFillings 4 (some .int) 0 0 0 0 none (am_Tm cX3_worthOfFillings (some .int) Q) 0 0 4 [some (am_r (.inl 1) 3), some (am_r (.inr k) 11), some (am_i x2), some (am_i x3)] [] h)) := by
  refine lp_ind _ _ (fun s H => fun x2 x3 e => ?_)
  · subst e
    rw [s_X3_worthOfFillings] at H
    refine rl_i3 dX3_worthOfFillings_4 ?_
    refine rl_a0 dX3_worthOfFillings_5 ?_
    refine ar_getI dX3_worthOfFillings_6 fg_X3_25 rfl rfl (ok_X rfl) ?_
    refine ar_ic_ge 42 dX3_worthOfFillings_9 (by decide) (fun c1 => ?_) (fun c1 => ?_)
    · replace H := wp_t c1 H
      refine rl_i2 dX3_worthOfFillings_42 ?_
      replace H := lp_re H
      exact ar_iret dX3_worthOfFillings_43 rfl rfl H
    · replace H := wp_f c1 H
      refine rl_a0 dX3_worthOfFillings_12 ?_
      refine rg_R (.inl 1) 5 dX3_worthOfFillings_13 fg_X3_15 rfl rfl rfl (ok_X rfl) ?_
      refine rl_i3 dX3_worthOfFillings_16 ?_
      obtain ⟨b1, H⟩ := wp_g H
      refine ar_iald dX3_worthOfFillings_17 rfl (ok_X rfl) (ib_in b1) ?_
      refine ar_iconst (iI (-1)) dX3_worthOfFillings_18 rfl ?_
      refine ar_ic_eq 36 dX3_worthOfFillings_19 (by decide) (fun c2 => ?_) (fun c2 => ?_)
      · replace H := wp_t c2 H
        refine rn_1_3 dX3_worthOfFillings_36 rfl trivial ?_
        refine ar_goto 4 dX3_worthOfFillings_39 (by decide) ?_
        exact am_V.wk (am_s (am_s (am_s (am_s am_0)))) ((lp_in H) _ _ rfl)
      · replace H := wp_f c2 H
        refine rl_i2 dX3_worthOfFillings_22 ?_
        refine rl_a1 dX3_worthOfFillings_23 ?_
        refine rg_R (.inr k) 14 dX3_worthOfFillings_24 fg_X3_107 rfl rfl rfl (ok_P hk rfl) ?_
        refine rl_a0 dX3_worthOfFillings_27 ?_
        refine rg_R (.inl 1) 5 dX3_worthOfFillings_28 fg_X3_15 rfl rfl rfl (ok_X rfl) ?_
        refine rl_i3 dX3_worthOfFillings_31 ?_
        obtain ⟨b2, H⟩ := wp_g H
        refine ar_iald dX3_worthOfFillings_32 rfl (ok_X rfl) (ib_in b2) ?_
        obtain ⟨b3, H⟩ := wp_g H
        refine ar_iald dX3_worthOfFillings_33 rfl (ok_P hk rfl) (ib_in b3) ?_
        refine ar_iadd dX3_worthOfFillings_34 ?_
        refine rs_i2 dX3_worthOfFillings_35 rfl trivial ?_
        refine rn_1_3 dX3_worthOfFillings_36 rfl trivial ?_
        refine ar_goto 4 dX3_worthOfFillings_39 (by decide) ?_
        exact am_V.wk (am_s (am_s (am_s (am_s am_0)))) ((lp_in H) _ _ rfl)
theorem c_X3_worthOfFillings {k : Nat} (hk : k < 10) {h : am_H} {a : Int32} (e : f_X3_worthOfFillings k h = some a) : am_Mi yX3_worthOfFillings cX3_worthOfFillings 4 (some .int) 0 0 [am_r (.inl 1) 3, am_r (.inr k) 11] h a h := by
  refine am_M.ofi (A := [some (am_r (.inl 1) 3), some (am_r (.inr k) 11), none, none]) (by decide +kernel) rfl (ble rfl) (fun Q hQ => ?_)
  have H : wp (f_X3_worthOfFillings k h) (fun a => Q (some (am_i a)) h) := ⟨_, e, hQ⟩
  unfold f_X3_worthOfFillings at H
  refine ar_iconst (iI (0)) dX3_worthOfFillings_0 rfl ?_
  refine rs_i2 dX3_worthOfFillings_1 rfl trivial ?_
  refine ar_iconst (iI (0)) dX3_worthOfFillings_2 rfl ?_
  refine rs_i3 dX3_worthOfFillings_3 rfl trivial ?_
  exact am_V.wk (am_s (am_s (am_s (am_s am_0)))) ((c_X3_worthOfFillings_L hk _ H) _ _ rfl)
noncomputable def f_X5_clear (k : Nat) (h : am_H) : Option am_H :=
  am_lt (am_u h (.inr k) 1 4 (iI (0))) (fun h1 => (f_X4_clear k h1).bind (fun a1 => am_lt (am_u a1 (.inr k) 11 4 (iI (0))) (fun h2 => (f_X1_clear (.inr k) 16 h2).bind (fun a2 => am_lt (am_u a2 (.inr k) 17 2 (iI (0))) (fun h3 => am_lt (am_u h3 (.inr k) 0 5 (iI (1))) (fun h4 => some (h4)))))))
theorem c_X5_clear {k : Nat} (hk : k < 10) {h : am_H} {a : am_H} (e : f_X5_clear k h = some a) : am_Mv yX5_clear cX5_clear 1 (none) 1 21 [am_r (.inr k) 0] h a := by
  refine am_M.ofv (A := [some (am_r (.inr k) 0)]) (by decide +kernel) rfl (ble rfl) (fun Q hQ => ?_)
  have H : wp (f_X5_clear k h) (fun a => Q none a) := ⟨_, e, hQ⟩
  unfold f_X5_clear at H
  refine rl_a0 dX5_clear_0 ?_
  refine rg_R (.inr k) 1 dX5_clear_1 fg_X5_12 rfl rfl rfl (ok_P hk rfl) ?_
  refine ar_iconst (iI (0)) dX5_clear_4 rfl ?_
  refine ar_putI dX5_clear_5 fg_X5_50 rfl rfl (ok_P hk rfl) rfl rfl ?_
  replace H := wp_l H
  generalize am_u h (.inr k) 1 4 (iI (0)) = h1 at H ⊢
  refine rl_a0 dX5_clear_8 ?_
  refine rg_R (.inr k) 6 dX5_clear_9 fg_X5_21 rfl rfl rfl (ok_P hk rfl) ?_
  obtain ⟨a1, e1, H⟩ := wp_b H
  refine rc_V0v dX5_clear_12 ml_X5_53 mc_X4_clear (c_X4_clear hk e1) rfl rfl rfl (ok_P hk rfl) rfl rfl rfl ?_
  refine rl_a0 dX5_clear_15 ?_
  refine rg_R (.inr k) 11 dX5_clear_16 fg_X5_28 rfl rfl rfl (ok_P hk rfl) ?_
  refine ar_iconst (iI (0)) dX5_clear_19 rfl ?_
  refine ar_putI dX5_clear_20 fg_X5_56 rfl rfl (ok_P hk rfl) rfl rfl ?_
  replace H := wp_l H
  generalize am_u a1 (.inr k) 11 4 (iI (0)) = h2 at H ⊢
  refine rl_a0 dX5_clear_23 ?_
  refine rg_R (.inr k) 16 dX5_clear_24 fg_X5_35 rfl rfl rfl (ok_P hk rfl) ?_
  obtain ⟨a2, e2, H⟩ := wp_b H
  refine rc_V0v dX5_clear_27 ml_X5_59 mc_X1_clear (c_X1_clear rfl (ok_P hk rfl) e2) rfl rfl rfl (ok_P hk rfl) rfl rfl rfl ?_
  refine rl_a0 dX5_clear_30 ?_
  refine rg_R (.inr k) 17 dX5_clear_31 fg_X5_42 rfl rfl rfl (ok_P hk rfl) ?_
  refine ar_iconst (iI (0)) dX5_clear_34 rfl ?_
  refine ar_putI dX5_clear_35 fg_X5_60 rfl rfl (ok_P hk rfl) rfl rfl ?_
  replace H := wp_l H
  generalize am_u a2 (.inr k) 17 2 (iI (0)) = h3 at H ⊢
  refine rl_a0 dX5_clear_38 ?_
  refine ar_iconst (iI (1)) dX5_clear_39 rfl ?_
  refine ar_putI dX5_clear_40 fg_X5_46 rfl rfl (ok_P hk rfl) rfl rfl ?_
  replace H := wp_l H
  generalize am_u h3 (.inr k) 0 5 (iI (1)) = h4 at H ⊢
  replace H := wp_s H
  exact ar_vret dX5_clear_43 rfl H
noncomputable def f_X5_copyFrom (k : Nat) (k2 : Nat) (h : am_H) : Option am_H :=
  (f_X0_copyFrom k k2 h).bind (fun a1 => (f_X4_copyFrom k k2 a1).bind (fun a2 => (f_X2_copyFrom k k2 a2).bind (fun a3 => (f_X1_copyFrom (.inr k) 16 (.inr k2) 16 a3).bind (fun a4 => (f_X7_copyFrom k k2 a4).bind (fun a5 => am_lt (am_u a5 (.inr k) 0 5 (a5.1 (.inr k2) 0 5)) (fun h1 => some (h1)))))))
theorem c_X5_copyFrom {k : Nat} (hk : k < 10) {k2 : Nat} (hk2 : k2 < 10) {h : am_H} {a : am_H} (e : f_X5_copyFrom k k2 h = some a) : am_Mv yX5_copyFrom cX5_copyFrom 2 (none) 2 45 [am_r (.inr k) 0, am_r (.inr k2) 0] h a := by
  refine am_M.ofv (A := [some (am_r (.inr k) 0), some (am_r (.inr k2) 0)]) (by decide +kernel) rfl (ble rfl) (fun Q hQ => ?_)
  have H : wp (f_X5_copyFrom k k2 h) (fun a => Q none a) := ⟨_, e, hQ⟩
  unfold f_X5_copyFrom at H
  refine rl_a0 dX5_copyFrom_0 ?_
  refine rg_R (.inr k) 1 dX5_copyFrom_1 fg_X5_12 rfl rfl rfl (ok_P hk rfl) ?_
  refine rl_a1 dX5_copyFrom_4 ?_
  refine rg_R (.inr k2) 1 dX5_copyFrom_5 fg_X5_12 rfl rfl rfl (ok_P hk2 rfl) ?_
  obtain ⟨a1, e1, H⟩ := wp_b H
  refine rc_V1v dX5_copyFrom_8 ml_X5_61 mc_X0_copyFrom (c_X0_copyFrom hk hk2 e1) rfl rfl rfl (ok_P hk rfl) rfl rfl rfl ?_
  refine rl_a0 dX5_copyFrom_11 ?_
  refine rg_R (.inr k) 6 dX5_copyFrom_12 fg_X5_21 rfl rfl rfl (ok_P hk rfl) ?_
  refine rl_a1 dX5_copyFrom_15 ?_
  refine rg_R (.inr k2) 6 dX5_copyFrom_16 fg_X5_21 rfl rfl rfl (ok_P hk2 rfl) ?_
  obtain ⟨a2, e2, H⟩ := wp_b H
  refine rc_V1v dX5_copyFrom_19 ml_X5_65 mc_X4_copyFrom (c_X4_copyFrom hk hk2 e2) rfl rfl rfl (ok_P hk rfl) rfl rfl rfl ?_
  refine rl_a0 dX5_copyFrom_22 ?_
  refine rg_R (.inr k) 11 dX5_copyFrom_23 fg_X5_28 rfl rfl rfl (ok_P hk rfl) ?_
  refine rl_a1 dX5_copyFrom_26 ?_
  refine rg_R (.inr k2) 11 dX5_copyFrom_27 fg_X5_28 rfl rfl rfl (ok_P hk2 rfl) ?_
  obtain ⟨a3, e3, H⟩ := wp_b H
  refine rc_V1v dX5_copyFrom_30 ml_X5_68 mc_X2_copyFrom (c_X2_copyFrom hk hk2 e3) rfl rfl rfl (ok_P hk rfl) rfl rfl rfl ?_
  refine rl_a0 dX5_copyFrom_33 ?_
  refine rg_R (.inr k) 16 dX5_copyFrom_34 fg_X5_35 rfl rfl rfl (ok_P hk rfl) ?_
  refine rl_a1 dX5_copyFrom_37 ?_
  refine rg_R (.inr k2) 16 dX5_copyFrom_38 fg_X5_35 rfl rfl rfl (ok_P hk2 rfl) ?_
  obtain ⟨a4, e4, H⟩ := wp_b H
  refine rc_V1v dX5_copyFrom_41 ml_X5_71 mc_X1_copyFrom (c_X1_copyFrom rfl (ok_P hk rfl) rfl (ok_P hk2 rfl) e4) rfl rfl rfl (ok_P hk rfl) rfl rfl rfl ?_
  refine rl_a0 dX5_copyFrom_44 ?_
  refine rg_R (.inr k) 17 dX5_copyFrom_45 fg_X5_42 rfl rfl rfl (ok_P hk rfl) ?_
  refine rl_a1 dX5_copyFrom_48 ?_
  refine rg_R (.inr k2) 17 dX5_copyFrom_49 fg_X5_42 rfl rfl rfl (ok_P hk2 rfl) ?_
  obtain ⟨a5, e5, H⟩ := wp_b H
  refine rc_V1v dX5_copyFrom_52 ml_X5_74 mc_X7_copyFrom (c_X7_copyFrom hk hk2 e5) rfl rfl rfl (ok_P hk rfl) rfl rfl rfl ?_
  refine rl_a0 dX5_copyFrom_55 ?_
  refine rl_a1 dX5_copyFrom_56 ?_
  refine ar_getI dX5_copyFrom_57 fg_X5_46 rfl rfl (ok_P hk2 rfl) ?_
  refine ar_putI dX5_copyFrom_60 fg_X5_46 rfl rfl (ok_P hk rfl) rfl rfl ?_
  replace H := wp_l H
  generalize am_u a5 (.inr k) 0 5 (a5.1 (.inr k2) 0 5) = h1 at H ⊢
  replace H := wp_s H
  exact ar_vret dX5_copyFrom_63 rfl H
noncomputable def f_X5_hasArc (k : Nat) (x1 : Int32) (h : am_H) : Option Int32 :=
  (f_X11_isWithin x1 (iI (0)) ((h.1 (.inr k) 1 4) - (iI (1)))).bind (fun a1 => if zb a1 then (some (a1)) else none)
theorem c_X5_hasArc {k : Nat} (hk : k < 10) {x1 : Int32} {h : am_H} {a : Int32} (e : f_X5_hasArc k x1 h = some a) : am_Mi yX5_hasArc cX5_hasArc 2 (some .boolean) 1 22 [am_r (.inr k) 0, am_i x1] h a h := by
  refine am_M.ofi (A := [some (am_r (.inr k) 0), some (am_i x1)]) (by decide +kernel) rfl (ble rfl) (fun Q hQ => ?_)
  have H : wp (f_X5_hasArc k x1 h) (fun a => Q (some (am_i a)) h) := ⟨_, e, hQ⟩
  unfold f_X5_hasArc at H
  refine rl_i1 dX5_hasArc_0 ?_
  refine ar_iconst (iI (0)) dX5_hasArc_1 rfl ?_
  refine rl_a0 dX5_hasArc_2 ?_
  refine rg_R (.inr k) 1 dX5_hasArc_3 fg_X5_12 rfl rfl rfl (ok_P hk rfl) ?_
  refine ar_getI dX5_hasArc_6 fg_X5_50 rfl rfl (ok_P hk rfl) ?_
  refine ar_iconst (iI (1)) dX5_hasArc_9 rfl ?_
  refine ar_isub dX5_hasArc_10 ?_
  obtain ⟨a1, e1, H⟩ := wp_b H
  refine rc_N3i dX5_hasArc_11 ml_X5_77 mc_X11_isWithin (c_X11_isWithin e1) rfl rfl rfl ?_
  obtain ⟨b1, H⟩ := wp_g H
  replace H := wp_s H
  exact ar_iret dX5_hasArc_14 rfl (zb_n b1) H
noncomputable def f_X5_hasRoom (k : Nat) (x1 : Int32) (h : am_H) : Option Int32 :=
  (f_X11_isWithin x1 (iI (0)) (h.1 (.inr k) 6 4)).bind (fun a1 => if zb a1 then (some (a1)) else none)
theorem c_X5_hasRoom {k : Nat} (hk : k < 10) {x1 : Int32} {h : am_H} {a : Int32} (e : f_X5_hasRoom k x1 h = some a) : am_Mi yX5_hasRoom cX5_hasRoom 2 (some .boolean) 1 22 [am_r (.inr k) 0, am_i x1] h a h := by
  refine am_M.ofi (A := [some (am_r (.inr k) 0), some (am_i x1)]) (by decide +kernel) rfl (ble rfl) (fun Q hQ => ?_)
  have H : wp (f_X5_hasRoom k x1 h) (fun a => Q (some (am_i a)) h) := ⟨_, e, hQ⟩
  unfold f_X5_hasRoom at H
  refine rl_i1 dX5_hasRoom_0 ?_
  refine ar_iconst (iI (0)) dX5_hasRoom_1 rfl ?_
  refine rl_a0 dX5_hasRoom_2 ?_
  refine rg_R (.inr k) 6 dX5_hasRoom_3 fg_X5_21 rfl rfl rfl (ok_P hk rfl) ?_
  refine ar_getI dX5_hasRoom_6 fg_X5_81 rfl rfl (ok_P hk rfl) ?_
  obtain ⟨a1, e1, H⟩ := wp_b H
  refine rc_N3i dX5_hasRoom_9 ml_X5_77 mc_X11_isWithin (c_X11_isWithin e1) rfl rfl rfl ?_
  obtain ⟨b1, H⟩ := wp_g H
  replace H := wp_s H
  exact ar_iret dX5_hasRoom_12 rfl (zb_n b1) H
noncomputable def f_X5_hasKind (k : Nat) (x1 : Int32) (h : am_H) : Option Int32 :=
  (f_X11_isWithin x1 (iI (0)) ((h.1 (.inr k) 11 4) - (iI (1)))).bind (fun a1 => if zb a1 then (some (a1)) else none)
theorem c_X5_hasKind {k : Nat} (hk : k < 10) {x1 : Int32} {h : am_H} {a : Int32} (e : f_X5_hasKind k x1 h = some a) : am_Mi yX5_hasKind cX5_hasKind 2 (some .boolean) 1 22 [am_r (.inr k) 0, am_i x1] h a h := by
  refine am_M.ofi (A := [some (am_r (.inr k) 0), some (am_i x1)]) (by decide +kernel) rfl (ble rfl) (fun Q hQ => ?_)
  have H : wp (f_X5_hasKind k x1 h) (fun a => Q (some (am_i a)) h) := ⟨_, e, hQ⟩
  unfold f_X5_hasKind at H
  refine rl_i1 dX5_hasKind_0 ?_
  refine ar_iconst (iI (0)) dX5_hasKind_1 rfl ?_
  refine rl_a0 dX5_hasKind_2 ?_
  refine rg_R (.inr k) 11 dX5_hasKind_3 fg_X5_28 rfl rfl rfl (ok_P hk rfl) ?_
  refine ar_getI dX5_hasKind_6 fg_X5_56 rfl rfl (ok_P hk rfl) ?_
  refine ar_iconst (iI (1)) dX5_hasKind_9 rfl ?_
  refine ar_isub dX5_hasKind_10 ?_
  obtain ⟨a1, e1, H⟩ := wp_b H
  refine rc_N3i dX5_hasKind_11 ml_X5_77 mc_X11_isWithin (c_X11_isWithin e1) rfl rfl rfl ?_
  obtain ⟨b1, H⟩ := wp_g H
  replace H := wp_s H
  exact ar_iret dX5_hasKind_14 rfl (zb_n b1) H
noncomputable def f_X5_hasScratch (k : Nat) (x1 : Int32) (h : am_H) : Option Int32 :=
  (f_X11_isWithin x1 (iI (0)) ((h.1 (.inr k) 17 2) - (iI (1)))).bind (fun a1 => if zb a1 then (some (a1)) else none)
theorem c_X5_hasScratch {k : Nat} (hk : k < 10) {x1 : Int32} {h : am_H} {a : Int32} (e : f_X5_hasScratch k x1 h = some a) : am_Mi yX5_hasScratch cX5_hasScratch 2 (some .boolean) 1 22 [am_r (.inr k) 0, am_i x1] h a h := by
  refine am_M.ofi (A := [some (am_r (.inr k) 0), some (am_i x1)]) (by decide +kernel) rfl (ble rfl) (fun Q hQ => ?_)
  have H : wp (f_X5_hasScratch k x1 h) (fun a => Q (some (am_i a)) h) := ⟨_, e, hQ⟩
  unfold f_X5_hasScratch at H
  refine rl_i1 dX5_hasScratch_0 ?_
  refine ar_iconst (iI (0)) dX5_hasScratch_1 rfl ?_
  refine rl_a0 dX5_hasScratch_2 ?_
  refine rg_R (.inr k) 17 dX5_hasScratch_3 fg_X5_42 rfl rfl rfl (ok_P hk rfl) ?_
  refine ar_getI dX5_hasScratch_6 fg_X5_60 rfl rfl (ok_P hk rfl) ?_
  refine ar_iconst (iI (1)) dX5_hasScratch_9 rfl ?_
  refine ar_isub dX5_hasScratch_10 ?_
  obtain ⟨a1, e1, H⟩ := wp_b H
  refine rc_N3i dX5_hasScratch_11 ml_X5_77 mc_X11_isWithin (c_X11_isWithin e1) rfl rfl rfl ?_
  obtain ⟨b1, H⟩ := wp_g H
  replace H := wp_s H
  exact ar_iret dX5_hasScratch_14 rfl (zb_n b1) H
noncomputable def f_X5_canHaveMargin (x0 : Int32) : Option Int32 :=
  (f_X11_isWithin x0 (iI (0)) (iI (99))).bind (fun a1 => if zb a1 then (some (a1)) else none)
theorem c_X5_canHaveMargin {x0 : Int32} {h : am_H} {a : Int32} (e : f_X5_canHaveMargin x0 = some a) : am_Mi yX5_canHaveMargin cX5_canHaveMargin 1 (some .boolean) 1 22 [am_i x0] h a h := by
  refine am_M.ofi (A := [some (am_i x0)]) (by decide +kernel) rfl (ble rfl) (fun Q hQ => ?_)
  have H : wp (f_X5_canHaveMargin x0) (fun a => Q (some (am_i a)) h) := ⟨_, e, hQ⟩
  unfold f_X5_canHaveMargin at H
  refine rl_i0 dX5_canHaveMargin_0 ?_
  refine ar_iconst (iI (0)) dX5_canHaveMargin_1 rfl ?_
  refine ar_bipush (iI (99)) dX5_canHaveMargin_2 rfl ?_
  obtain ⟨a1, e1, H⟩ := wp_b H
  refine rc_N3i dX5_canHaveMargin_4 ml_X5_77 mc_X11_isWithin (c_X11_isWithin e1) rfl rfl rfl ?_
  obtain ⟨b1, H⟩ := wp_g H
  replace H := wp_s H
  exact ar_iret dX5_canHaveMargin_7 rfl (zb_n b1) H
noncomputable def f_X5_leftEdge (k : Nat) (x1 : Int32) (h : am_H) : Option Int32 :=
  (f_X5_centreParts k x1 h).bind (fun a1 => (f_X4_partsOf k x1 h).bind (fun a2 => if (iI (2)) = 0 then none else (some ((a1 - (a2 / (iI (2))))))))
theorem c_X5_leftEdge {k : Nat} (hk : k < 10) {x1 : Int32} {h : am_H} {a : Int32} (e : f_X5_leftEdge k x1 h = some a) : am_Mi yX5_leftEdge cX5_leftEdge 2 (some .int) 3 67 [am_r (.inr k) 0, am_i x1] h a h := by
  refine am_M.ofi (A := [some (am_r (.inr k) 0), some (am_i x1)]) (by decide +kernel) rfl (ble rfl) (fun Q hQ => ?_)
  have H : wp (f_X5_leftEdge k x1 h) (fun a => Q (some (am_i a)) h) := ⟨_, e, hQ⟩
  unfold f_X5_leftEdge at H
  refine rl_a0 dX5_leftEdge_0 ?_
  refine rl_i1 dX5_leftEdge_1 ?_
  obtain ⟨a1, e1, H⟩ := wp_b H
  refine rc_V1i dX5_leftEdge_2 ml_X5_94 mc_X5_centreParts (c_X5_centreParts hk e1) rfl rfl rfl (ok_P hk rfl) rfl rfl rfl ?_
  refine rl_a0 dX5_leftEdge_5 ?_
  refine rg_R (.inr k) 6 dX5_leftEdge_6 fg_X5_21 rfl rfl rfl (ok_P hk rfl) ?_
  refine rl_i1 dX5_leftEdge_9 ?_
  obtain ⟨a2, e2, H⟩ := wp_b H
  refine rc_V1i dX5_leftEdge_10 ml_X5_97 mc_X4_partsOf (c_X4_partsOf hk e2) rfl rfl rfl (ok_P hk rfl) rfl rfl rfl ?_
  refine ar_iconst (iI (2)) dX5_leftEdge_13 rfl ?_
  obtain ⟨b1, H⟩ := wp_d H
  refine ar_idiv dX5_leftEdge_14 b1 ?_
  refine ar_isub dX5_leftEdge_15 ?_
  replace H := wp_s H
  exact ar_iret dX5_leftEdge_16 rfl rfl H
noncomputable def f_X5_rightEdge (k : Nat) (x1 : Int32) (h : am_H) : Option Int32 :=
  (f_X5_centreParts k x1 h).bind (fun a1 => (f_X4_partsOf k x1 h).bind (fun a2 => if (iI (2)) = 0 then none else (some ((a1 + (a2 / (iI (2))))))))
theorem c_X5_rightEdge {k : Nat} (hk : k < 10) {x1 : Int32} {h : am_H} {a : Int32} (e : f_X5_rightEdge k x1 h = some a) : am_Mi yX5_rightEdge cX5_rightEdge 2 (some .int) 3 67 [am_r (.inr k) 0, am_i x1] h a h := by
  refine am_M.ofi (A := [some (am_r (.inr k) 0), some (am_i x1)]) (by decide +kernel) rfl (ble rfl) (fun Q hQ => ?_)
  have H : wp (f_X5_rightEdge k x1 h) (fun a => Q (some (am_i a)) h) := ⟨_, e, hQ⟩
  unfold f_X5_rightEdge at H
  refine rl_a0 dX5_rightEdge_0 ?_
  refine rl_i1 dX5_rightEdge_1 ?_
  obtain ⟨a1, e1, H⟩ := wp_b H
  refine rc_V1i dX5_rightEdge_2 ml_X5_94 mc_X5_centreParts (c_X5_centreParts hk e1) rfl rfl rfl (ok_P hk rfl) rfl rfl rfl ?_
  refine rl_a0 dX5_rightEdge_5 ?_
  refine rg_R (.inr k) 6 dX5_rightEdge_6 fg_X5_21 rfl rfl rfl (ok_P hk rfl) ?_
  refine rl_i1 dX5_rightEdge_9 ?_
  obtain ⟨a2, e2, H⟩ := wp_b H
  refine rc_V1i dX5_rightEdge_10 ml_X5_97 mc_X4_partsOf (c_X4_partsOf hk e2) rfl rfl rfl (ok_P hk rfl) rfl rfl rfl ?_
  refine ar_iconst (iI (2)) dX5_rightEdge_13 rfl ?_
  obtain ⟨b1, H⟩ := wp_d H
  refine ar_idiv dX5_rightEdge_14 b1 ?_
  refine ar_iadd dX5_rightEdge_15 ?_
  replace H := wp_s H
  exact ar_iret dX5_rightEdge_16 rfl rfl H
noncomputable def f_X5_arcUnder (k : Nat) (x1 : Int32) (h : am_H) : Option Int32 :=
  (f_X5_centreTurn k x1 h).bind (fun a1 => (f_X0_arcAround k a1 h).bind (fun a2 => some (a2)))
theorem c_X5_arcUnder {k : Nat} (hk : k < 10) {x1 : Int32} {h : am_H} {a : Int32} (e : f_X5_arcUnder k x1 h = some a) : am_Mi yX5_arcUnder cX5_arcUnder 2 (some .int) 2 45 [am_r (.inr k) 0, am_i x1] h a h := by
  refine am_M.ofi (A := [some (am_r (.inr k) 0), some (am_i x1)]) (by decide +kernel) rfl (ble rfl) (fun Q hQ => ?_)
  have H : wp (f_X5_arcUnder k x1 h) (fun a => Q (some (am_i a)) h) := ⟨_, e, hQ⟩
  unfold f_X5_arcUnder at H
  refine rl_a0 dX5_arcUnder_0 ?_
  refine rg_R (.inr k) 1 dX5_arcUnder_1 fg_X5_12 rfl rfl rfl (ok_P hk rfl) ?_
  refine rl_a0 dX5_arcUnder_4 ?_
  refine rl_i1 dX5_arcUnder_5 ?_
  obtain ⟨a1, e1, H⟩ := wp_b H
  refine rc_V1i dX5_arcUnder_6 ml_X5_88 mc_X5_centreTurn (c_X5_centreTurn hk e1) rfl rfl rfl (ok_P hk rfl) rfl rfl rfl ?_
  obtain ⟨a2, e2, H⟩ := wp_b H
  refine rc_V1i dX5_arcUnder_9 ml_X5_100 mc_X0_arcAround (c_X0_arcAround hk e2) rfl rfl rfl (ok_P hk rfl) rfl rfl rfl ?_
  replace H := wp_s H
  exact ar_iret dX5_arcUnder_12 rfl rfl H
noncomputable def f_X5_hardnessUnder (k : Nat) (x1 : Int32) (h : am_H) : Option Int32 :=
  (f_X5_centreTurn k x1 h).bind (fun a1 => (f_X0_hardnessAt k a1 h).bind (fun a2 => some (a2)))
theorem c_X5_hardnessUnder {k : Nat} (hk : k < 10) {x1 : Int32} {h : am_H} {a : Int32} (e : f_X5_hardnessUnder k x1 h = some a) : am_Mi yX5_hardnessUnder cX5_hardnessUnder 2 (some .int) 2 45 [am_r (.inr k) 0, am_i x1] h a h := by
  refine am_M.ofi (A := [some (am_r (.inr k) 0), some (am_i x1)]) (by decide +kernel) rfl (ble rfl) (fun Q hQ => ?_)
  have H : wp (f_X5_hardnessUnder k x1 h) (fun a => Q (some (am_i a)) h) := ⟨_, e, hQ⟩
  unfold f_X5_hardnessUnder at H
  refine rl_a0 dX5_hardnessUnder_0 ?_
  refine rg_R (.inr k) 1 dX5_hardnessUnder_1 fg_X5_12 rfl rfl rfl (ok_P hk rfl) ?_
  refine rl_a0 dX5_hardnessUnder_4 ?_
  refine rl_i1 dX5_hardnessUnder_5 ?_
  obtain ⟨a1, e1, H⟩ := wp_b H
  refine rc_V1i dX5_hardnessUnder_6 ml_X5_88 mc_X5_centreTurn (c_X5_centreTurn hk e1) rfl rfl rfl (ok_P hk rfl) rfl rfl rfl ?_
  obtain ⟨a2, e2, H⟩ := wp_b H
  refine rc_V1i dX5_hardnessUnder_9 ml_X5_103 mc_X0_hardnessAt (c_X0_hardnessAt hk e2) rfl rfl rfl (ok_P hk rfl) rfl rfl rfl ?_
  replace H := wp_s H
  exact ar_iret dX5_hardnessUnder_12 rfl rfl H
noncomputable def s_X5_slipsBy (k : Nat) : am_S am_H → Option (am_S am_H ⊕ (Int32 × am_H)) := fun s => match s with
  | (7, [x2, x3], [], [], h) => if (h.1 (.inr k) 6 4) ≤ x3 then (some (.inr ((((h.1 (.inl 1) 2 2) - x2), h)))) else ((f_X5_hardnessUnder k x3 h).bind (fun a1 => if ib x3 20 then (if (h.1 (.inr k) 8 x3.toNatClampNeg) = 0 then ((f_X4_strokesOf k x3 h).bind (fun a2 => some (.inl (54, [x2, x3, a1, a2, (iI (0))], [], [], h)))) else (some (.inl (54, [x2, x3, a1, (iI (0)), (iI (0))], [], [], h)))) else none))
  | (54, [x2, x3, x4, x5, x6], [], [], h) => if x5 ≤ x6 then (some (.inl (7, [x2, (x3 + 1)], [], [], h))) else ((f_X1_reachOfStroke (.inl 1) 2 x4 h).bind (fun a1 => some (.inl (54, [x2, x3, x4, x5, (x6 + 1)], [], [], a1.2))))
  | _ => none
noncomputable def f_X5_slipsBy_7 (k : Nat) (x2 : Int32) (x3 : Int32) (h : am_H) : Option (Int32 × am_H) := lp (s_X5_slipsBy k) (7, [x2, x3], [], [], h)
noncomputable def f_X5_slipsBy_54 (k : Nat) (x2 : Int32) (x3 : Int32) (x4 : Int32) (x5 : Int32) (x6 : Int32) (h : am_H) : Option (Int32 × am_H) := lp (s_X5_slipsBy k) (54, [x2, x3, x4, x5, x6], [], [], h)
theorem e_X5_slipsBy_7 (k : Nat) (x2 : Int32) (x3 : Int32) (h : am_H) : f_X5_slipsBy_7 k x2 x3 h = (if (h.1 (.inr k) 6 4) ≤ x3 then (some ((((h.1 (.inl 1) 2 2) - x2), h))) else ((f_X5_hardnessUnder k x3 h).bind (fun a1 => if ib x3 20 then (if (h.1 (.inr k) 8 x3.toNatClampNeg) = 0 then ((f_X4_strokesOf k x3 h).bind (fun a2 => f_X5_slipsBy_54 k x2 x3 a1 a2 (iI (0)) h)) else (f_X5_slipsBy_54 k x2 x3 a1 (iI (0)) (iI (0)) h)) else none))) := by
  show lp _ _ = _
  rw [lp_eq, s_X5_slipsBy]
  simp only [lpk_i, lpk_b, lpk_l, lpk_n, lpk_j, lpk_r] <;> rfl
theorem e_X5_slipsBy_54 (k : Nat) (x2 : Int32) (x3 : Int32) (x4 : Int32) (x5 : Int32) (x6 : Int32) (h : am_H) : f_X5_slipsBy_54 k x2 x3 x4 x5 x6 h = (if x5 ≤ x6 then (f_X5_slipsBy_7 k x2 (x3 + 1) h) else ((f_X1_reachOfStroke (.inl 1) 2 x4 h).bind (fun a1 => f_X5_slipsBy_54 k x2 x3 x4 x5 (x6 + 1) a1.2))) := by
  show lp _ _ = _
  rw [lp_eq, s_X5_slipsBy]
  simp only [lpk_i, lpk_b, lpk_l, lpk_n, lpk_j, lpk_r] <;> rfl
noncomputable def f_X5_slipsBy (k : Nat) (h : am_H) : Option (Int32 × am_H) :=
  f_X5_slipsBy_7 k (h.1 (.inl 1) 2 2) (iI (0)) h
theorem c_X5_slipsBy_L {k : Nat} (hk : k < 10) {Q : Option am_v → am_H → Prop} : ∀ s, wp (lp (s_X5_slipsBy k) s) (fun a => Q (some (am_i a.1)) a.2) → ((∀ x2 x3 h, s = (7, [x2, x3], [], [], h) → am_V RX5 cX5_slipsBy 7 (some .int) 3 66 0 0 none (am_Tm cX5_slipsBy (some .int) Q) 0 0 7 [some (am_r (.inr k) 0), some (am_r (.inl 1) 2), some (am_i x2), some (am_i x3), none, none, none] [] h) ∧ (∀ x2 x3 x4 x5 x6 h, s = (54, [x2, x3, x4, x5, x6], [], [], h) → am_V RX5 cX5_slipsBy 7 (some .int) 3 66 0 0 none (am_Tm cX5_slipsBy (some .int) Q) 0 0 54 [some (am_r (.inr k) 0), some (am_r (.inl 1) 2), some (am_i x2), some (am_i x3), some (am_i x4), some (am_i x5), some (am_i x6)] [] h)) := by
  refine lp_ind _ _ (fun s H => ⟨fun x2 x3 h e => ?_, fun x2 x3 x4 x5 x6 h e => ?_⟩)
  · subst e
    rw [s_X5_slipsBy] at H
    refine rl_i3 dX5_slipsBy_7 ?_
    refine rl_a0 dX5_slipsBy_8 ?_
    refine rg_R (.inr k) 6 dX5_slipsBy_9 fg_X5_21 rfl rfl rfl (ok_P hk rfl) ?_
    refine ar_getI dX5_slipsBy_12 fg_X5_81 rfl rfl (ok_P hk rfl) ?_
    refine ar_ic_ge 80 dX5_slipsBy_15 (by decide) (fun c1 => ?_) (fun c1 => ?_)
    · replace H := wp_t c1 H
      refine rl_a1 dX5_slipsBy_80 ?_
      refine ar_getI dX5_slipsBy_81 fg_X5_109 rfl rfl (ok_X rfl) ?_
      refine rl_i2 dX5_slipsBy_84 ?_
      refine ar_isub dX5_slipsBy_85 ?_
      replace H := lp_re H
      exact ar_iret dX5_slipsBy_86 rfl rfl H
    · replace H := wp_f c1 H
      refine rl_a0 dX5_slipsBy_18 ?_
      refine rl_i3 dX5_slipsBy_19 ?_
      obtain ⟨a1, e1, H⟩ := wp_b H
      refine rc_V1i dX5_slipsBy_20 ml_X5_112 mc_X5_hardnessUnder (c_X5_hardnessUnder hk e1) rfl rfl rfl (ok_P hk rfl) rfl rfl rfl ?_
      refine rs_i4 dX5_slipsBy_23 rfl trivial ?_
      refine rl_a0 dX5_slipsBy_25 ?_
      refine rg_R (.inr k) 6 dX5_slipsBy_26 fg_X5_21 rfl rfl rfl (ok_P hk rfl) ?_
      refine rg_R (.inr k) 8 dX5_slipsBy_29 fg_X5_115 rfl rfl rfl (ok_P hk rfl) ?_
      refine rl_i3 dX5_slipsBy_32 ?_
      obtain ⟨b1, H⟩ := wp_g H
      refine ar_zald dX5_slipsBy_33 rfl (ok_P hk rfl) (ib_in b1) ?_
      refine ar_if_eq 41 dX5_slipsBy_34 (by decide) (fun c2 => ?_) (fun c2 => ?_)
      · replace H := wp_t c2 H
        refine rl_a0 dX5_slipsBy_41 ?_
        refine rg_R (.inr k) 6 dX5_slipsBy_42 fg_X5_21 rfl rfl rfl (ok_P hk rfl) ?_
        refine rl_i3 dX5_slipsBy_45 ?_
        obtain ⟨a2, e2, H⟩ := wp_b H
        refine rc_V1i dX5_slipsBy_46 ml_X5_119 mc_X4_strokesOf (c_X4_strokesOf hk e2) rfl rfl rfl (ok_P hk rfl) rfl rfl rfl ?_
        refine rs_i5 dX5_slipsBy_49 rfl trivial ?_
        refine ar_iconst (iI (0)) dX5_slipsBy_51 rfl ?_
        refine rs_i6 dX5_slipsBy_52 rfl trivial ?_
        exact am_V.wk (am_s (am_s (am_s (am_s (am_s (am_s (am_s am_0))))))) ((lp_in H).2 _ _ _ _ _ _ rfl)
      · replace H := wp_f c2 H
        refine ar_iconst (iI (0)) dX5_slipsBy_37 rfl ?_
        refine ar_goto 49 dX5_slipsBy_38 (by decide) ?_
        refine rs_i5 dX5_slipsBy_49 rfl trivial ?_
        refine ar_iconst (iI (0)) dX5_slipsBy_51 rfl ?_
        refine rs_i6 dX5_slipsBy_52 rfl trivial ?_
        exact am_V.wk (am_s (am_s (am_s (am_s (am_s (am_s (am_s am_0))))))) ((lp_in H).2 _ _ _ _ _ _ rfl)
  · subst e
    rw [s_X5_slipsBy] at H
    refine rl_i6 dX5_slipsBy_54 ?_
    refine rl_i5 dX5_slipsBy_56 ?_
    refine ar_ic_ge 74 dX5_slipsBy_58 (by decide) (fun c1 => ?_) (fun c1 => ?_)
    · replace H := wp_t c1 H
      refine rn_1_3 dX5_slipsBy_74 rfl trivial ?_
      refine ar_goto 7 dX5_slipsBy_77 (by decide) ?_
      exact am_V.wk (am_s (am_s (am_s (am_s (am_n (am_n (am_n am_0))))))) ((lp_in H).1 _ _ _ rfl)
    · replace H := wp_f c1 H
      refine rl_a1 dX5_slipsBy_61 ?_
      refine rl_i4 dX5_slipsBy_62 ?_
      obtain ⟨a1, e1, H⟩ := wp_b H
      refine rc_V1i dX5_slipsBy_64 ml_X5_122 mc_X1_reachOfStroke (c_X1_reachOfStroke rfl (ok_X rfl) e1) rfl rfl rfl (ok_X rfl) rfl rfl rfl ?_
      refine ar_pop dX5_slipsBy_67 trivial ?_
      refine rn_1_6 dX5_slipsBy_68 rfl trivial ?_
      refine ar_goto 54 dX5_slipsBy_71 (by decide) ?_
      exact am_V.wk (am_s (am_s (am_s (am_s (am_s (am_s (am_s am_0))))))) ((lp_in H).2 _ _ _ _ _ _ rfl)
theorem c_X5_slipsBy {k : Nat} (hk : k < 10) {h : am_H} {a : Int32 × am_H} (e : f_X5_slipsBy k h = some a) : am_Mi yX5_slipsBy cX5_slipsBy 7 (some .int) 3 66 [am_r (.inr k) 0, am_r (.inl 1) 2] h a.1 a.2 := by
  refine am_M.ofi (A := [some (am_r (.inr k) 0), some (am_r (.inl 1) 2), none, none, none, none, none]) (by decide +kernel) rfl (ble rfl) (fun Q hQ => ?_)
  have H : wp (f_X5_slipsBy k h) (fun a => Q (some (am_i a.1)) a.2) := ⟨_, e, hQ⟩
  unfold f_X5_slipsBy at H
  refine rl_a1 dX5_slipsBy_0 ?_
  refine ar_getI dX5_slipsBy_1 fg_X5_109 rfl rfl (ok_X rfl) ?_
  refine rs_i2 dX5_slipsBy_4 rfl trivial ?_
  refine ar_iconst (iI (0)) dX5_slipsBy_5 rfl ?_
  refine rs_i3 dX5_slipsBy_6 rfl trivial ?_
  exact am_V.wk (am_s (am_s (am_s (am_s (am_n (am_n (am_n am_0))))))) ((c_X5_slipsBy_L hk _ H).1 _ _ _ rfl)
noncomputable def f_X5_canEngraveAny (k : Nat) (h : am_H) : Option Int32 :=
  if (h.1 (.inr k) 1 4) ≤ 0 then (some ((iI (0)))) else (if (iI (40)) < (h.1 (.inr k) 17 2) then (some ((iI (0)))) else (some ((iI (1)))))
theorem c_X5_canEngraveAny {k : Nat} (hk : k < 10) {h : am_H} {a : Int32} (e : f_X5_canEngraveAny k h = some a) : am_Mi yX5_canEngraveAny cX5_canEngraveAny 1 (some .boolean) 0 0 [am_r (.inr k) 0] h a h := by
  refine am_M.ofi (A := [some (am_r (.inr k) 0)]) (by decide +kernel) rfl (ble rfl) (fun Q hQ => ?_)
  have H : wp (f_X5_canEngraveAny k h) (fun a => Q (some (am_i a)) h) := ⟨_, e, hQ⟩
  unfold f_X5_canEngraveAny at H
  refine rl_a0 dX5_canEngraveAny_0 ?_
  refine rg_R (.inr k) 1 dX5_canEngraveAny_1 fg_X5_12 rfl rfl rfl (ok_P hk rfl) ?_
  refine ar_getI dX5_canEngraveAny_4 fg_X5_50 rfl rfl (ok_P hk rfl) ?_
  refine ar_if_le 26 dX5_canEngraveAny_7 (by decide) (fun c1 => ?_) (fun c1 => ?_)
  · replace H := wp_t c1 H
    refine ar_iconst (iI (0)) dX5_canEngraveAny_26 rfl ?_
    replace H := wp_s H
    exact ar_iret dX5_canEngraveAny_27 rfl rfl H
  · replace H := wp_f c1 H
    refine rl_a0 dX5_canEngraveAny_10 ?_
    refine rg_R (.inr k) 17 dX5_canEngraveAny_11 fg_X5_42 rfl rfl rfl (ok_P hk rfl) ?_
    refine ar_getI dX5_canEngraveAny_14 fg_X5_60 rfl rfl (ok_P hk rfl) ?_
    refine ar_bipush (iI (40)) dX5_canEngraveAny_17 rfl ?_
    refine ar_ic_gt 26 dX5_canEngraveAny_19 (by decide) (fun c2 => ?_) (fun c2 => ?_)
    · replace H := wp_t c2 H
      refine ar_iconst (iI (0)) dX5_canEngraveAny_26 rfl ?_
      replace H := wp_s H
      exact ar_iret dX5_canEngraveAny_27 rfl rfl H
    · replace H := wp_f c2 H
      refine ar_iconst (iI (1)) dX5_canEngraveAny_22 rfl ?_
      refine ar_goto 27 dX5_canEngraveAny_23 (by decide) ?_
      replace H := wp_s H
      exact ar_iret dX5_canEngraveAny_27 rfl rfl H
noncomputable def f_X5_canEngrave (k : Nat) (x1 : Int32) (h : am_H) : Option Int32 :=
  (f_X5_hasLetter k x1 h).bind (fun a1 => if a1 = 0 then (some ((iI (0)))) else (if ib x1 20 then (if (h.1 (.inr k) 8 x1.toNatClampNeg) = 0 then ((f_X5_canEngraveAny k h).bind (fun a2 => if a2 = 0 then (some ((iI (0)))) else (some ((iI (1)))))) else (some ((iI (0))))) else none))
theorem c_X5_canEngrave {k : Nat} (hk : k < 10) {x1 : Int32} {h : am_H} {a : Int32} (e : f_X5_canEngrave k x1 h = some a) : am_Mi yX5_canEngrave cX5_canEngrave 2 (some .boolean) 2 43 [am_r (.inr k) 0, am_i x1] h a h := by
  refine am_M.ofi (A := [some (am_r (.inr k) 0), some (am_i x1)]) (by decide +kernel) rfl (ble rfl) (fun Q hQ => ?_)
  have H : wp (f_X5_canEngrave k x1 h) (fun a => Q (some (am_i a)) h) := ⟨_, e, hQ⟩
  unfold f_X5_canEngrave at H
  refine rl_a0 dX5_canEngrave_0 ?_
  refine rl_i1 dX5_canEngrave_1 ?_
  obtain ⟨a1, e1, H⟩ := wp_b H
  refine rc_V1i dX5_canEngrave_2 ml_X5_125 mc_X5_hasLetter (c_X5_hasLetter hk e1) rfl rfl rfl (ok_P hk rfl) rfl rfl rfl ?_
  refine ar_if_eq 31 dX5_canEngrave_5 (by decide) (fun c1 => ?_) (fun c1 => ?_)
  · replace H := wp_t c1 H
    refine ar_iconst (iI (0)) dX5_canEngrave_31 rfl ?_
    replace H := wp_s H
    exact ar_iret dX5_canEngrave_32 rfl rfl H
  · replace H := wp_f c1 H
    refine rl_a0 dX5_canEngrave_8 ?_
    refine rg_R (.inr k) 6 dX5_canEngrave_9 fg_X5_21 rfl rfl rfl (ok_P hk rfl) ?_
    refine rg_R (.inr k) 8 dX5_canEngrave_12 fg_X5_115 rfl rfl rfl (ok_P hk rfl) ?_
    refine rl_i1 dX5_canEngrave_15 ?_
    obtain ⟨b1, H⟩ := wp_g H
    refine ar_zald dX5_canEngrave_16 rfl (ok_P hk rfl) (ib_in b1) ?_
    refine ar_if_ne 31 dX5_canEngrave_17 (by decide) (fun c2 => ?_) (fun c2 => ?_)
    · replace H := wp_f c2 H
      refine ar_iconst (iI (0)) dX5_canEngrave_31 rfl ?_
      replace H := wp_s H
      exact ar_iret dX5_canEngrave_32 rfl rfl H
    · replace H := wp_t c2 H
      refine rl_a0 dX5_canEngrave_20 ?_
      obtain ⟨a2, e2, H⟩ := wp_b H
      refine rc_V0i dX5_canEngrave_21 ml_X5_129 mc_X5_canEngraveAny (c_X5_canEngraveAny hk e2) rfl rfl rfl (ok_P hk rfl) rfl rfl rfl ?_
      refine ar_if_eq 31 dX5_canEngrave_24 (by decide) (fun c3 => ?_) (fun c3 => ?_)
      · replace H := wp_t c3 H
        refine ar_iconst (iI (0)) dX5_canEngrave_31 rfl ?_
        replace H := wp_s H
        exact ar_iret dX5_canEngrave_32 rfl rfl H
      · replace H := wp_f c3 H
        refine ar_iconst (iI (1)) dX5_canEngrave_27 rfl ?_
        refine ar_goto 32 dX5_canEngrave_28 (by decide) ?_
        replace H := wp_s H
        exact ar_iret dX5_canEngrave_32 rfl rfl H
noncomputable def s_X5_engraveLetter (k : Nat) : am_S am_H → Option (am_S am_H ⊕ (Int32 × am_H)) := fun s => match s with
  | (27, [x1, x2, x3, x4, x5], [], [], h) => if x4 ≤ x5 then (if ib x1 20 then (am_lt (am_u h (.inr k) 8 x1.toNatClampNeg (vp_nar .boolean (iI (1)))) (fun h1 => some (.inr ((((h1.1 (.inr k) 17 2) - x2), h1))))) else none) else ((f_X1_reachOfStroke (.inr k) 16 x3 h).bind (fun a1 => if a1.1 ≤ 0 then (some (.inl (27, [x1, x2, x3, x4, (x5 + 1)], [], [], a1.2))) else ((f_X7_add k x1 a1.1 a1.2).bind (fun a2 => some (.inl (27, [x1, x2, x3, x4, (x5 + 1)], [], [], a2))))))
  | _ => none
noncomputable def f_X5_engraveLetter_27 (k : Nat) (x1 : Int32) (x2 : Int32) (x3 : Int32) (x4 : Int32) (x5 : Int32) (h : am_H) : Option (Int32 × am_H) := lp (s_X5_engraveLetter k) (27, [x1, x2, x3, x4, x5], [], [], h)
theorem e_X5_engraveLetter_27 (k : Nat) (x1 : Int32) (x2 : Int32) (x3 : Int32) (x4 : Int32) (x5 : Int32) (h : am_H) : f_X5_engraveLetter_27 k x1 x2 x3 x4 x5 h = (if x4 ≤ x5 then (if ib x1 20 then (am_lt (am_u h (.inr k) 8 x1.toNatClampNeg (vp_nar .boolean (iI (1)))) (fun h1 => some ((((h1.1 (.inr k) 17 2) - x2), h1)))) else none) else ((f_X1_reachOfStroke (.inr k) 16 x3 h).bind (fun a1 => if a1.1 ≤ 0 then (f_X5_engraveLetter_27 k x1 x2 x3 x4 (x5 + 1) a1.2) else ((f_X7_add k x1 a1.1 a1.2).bind (fun a2 => f_X5_engraveLetter_27 k x1 x2 x3 x4 (x5 + 1) a2))))) := by
  show lp _ _ = _
  rw [lp_eq, s_X5_engraveLetter]
  simp only [lpk_i, lpk_b, lpk_l, lpk_n, lpk_j, lpk_r] <;> rfl
noncomputable def f_X5_engraveLetter (k : Nat) (x1 : Int32) (h : am_H) : Option (Int32 × am_H) :=
  (f_X5_hardnessUnder k x1 h).bind (fun a1 => (f_X4_strokesOf k x1 h).bind (fun a2 => f_X5_engraveLetter_27 k x1 (h.1 (.inr k) 17 2) a1 a2 (iI (0)) h))
theorem c_X5_engraveLetter_L {k : Nat} (hk : k < 10) {Q : Option am_v → am_H → Prop} : ∀ s, wp (lp (s_X5_engraveLetter k) s) (fun a => Q (some (am_i a.1)) a.2) → ((∀ x1 x2 x3 x4 x5 h, s = (27, [x1, x2, x3, x4, x5], [], [], h) → am_V RX5 cX5_engraveLetter 7 (some .int) 3 66 0 0 none (am_Tm cX5_engraveLetter (some .int) Q) 0 0 27 [some (am_r (.inr k) 0), some (am_i x1), some (am_i x2), some (am_i x3), some (am_i x4), some (am_i x5), none] [] h)) := by
  refine lp_ind _ _ (fun s H => fun x1 x2 x3 x4 x5 h e => ?_)
  · subst e
    rw [s_X5_engraveLetter] at H
    refine rl_i5 dX5_engraveLetter_27 ?_
    refine rl_i4 dX5_engraveLetter_29 ?_
    refine ar_ic_ge 65 dX5_engraveLetter_31 (by decide) (fun c1 => ?_) (fun c1 => ?_)
    · replace H := wp_t c1 H
      refine rl_a0 dX5_engraveLetter_65 ?_
      refine rg_R (.inr k) 6 dX5_engraveLetter_66 fg_X5_21 rfl rfl rfl (ok_P hk rfl) ?_
      refine rg_R (.inr k) 8 dX5_engraveLetter_69 fg_X5_115 rfl rfl rfl (ok_P hk rfl) ?_
      refine rl_i1 dX5_engraveLetter_72 ?_
      refine ar_iconst (iI (1)) dX5_engraveLetter_73 rfl ?_
      obtain ⟨b1, H⟩ := wp_g H
      refine ar_zast dX5_engraveLetter_74 rfl (ok_P hk rfl) (ib_in b1) ?_
      replace H := wp_l H
      generalize am_u h (.inr k) 8 x1.toNatClampNeg (vp_nar .boolean (iI (1))) = h1 at H ⊢
      refine rl_a0 dX5_engraveLetter_75 ?_
      refine rg_R (.inr k) 17 dX5_engraveLetter_76 fg_X5_42 rfl rfl rfl (ok_P hk rfl) ?_
      refine ar_getI dX5_engraveLetter_79 fg_X5_60 rfl rfl (ok_P hk rfl) ?_
      refine rl_i2 dX5_engraveLetter_82 ?_
      refine ar_isub dX5_engraveLetter_83 ?_
      replace H := lp_re H
      exact ar_iret dX5_engraveLetter_84 rfl rfl H
    · replace H := wp_f c1 H
      refine rl_a0 dX5_engraveLetter_34 ?_
      refine rg_R (.inr k) 16 dX5_engraveLetter_35 fg_X5_35 rfl rfl rfl (ok_P hk rfl) ?_
      refine rl_i3 dX5_engraveLetter_38 ?_
      obtain ⟨a1, e1, H⟩ := wp_b H
      refine rc_V1i dX5_engraveLetter_39 ml_X5_122 mc_X1_reachOfStroke (c_X1_reachOfStroke rfl (ok_P hk rfl) e1) rfl rfl rfl (ok_P hk rfl) rfl rfl rfl ?_
      refine rs_i6 dX5_engraveLetter_42 rfl trivial ?_
      refine rl_i6 dX5_engraveLetter_44 ?_
      refine ar_if_le 59 dX5_engraveLetter_46 (by decide) (fun c2 => ?_) (fun c2 => ?_)
      · replace H := wp_t c2 H
        refine rn_1_5 dX5_engraveLetter_59 rfl trivial ?_
        refine ar_goto 27 dX5_engraveLetter_62 (by decide) ?_
        exact am_V.wk (am_s (am_s (am_s (am_s (am_s (am_s (am_n am_0))))))) ((lp_in H) _ _ _ _ _ _ rfl)
      · replace H := wp_f c2 H
        refine rl_a0 dX5_engraveLetter_49 ?_
        refine rg_R (.inr k) 17 dX5_engraveLetter_50 fg_X5_42 rfl rfl rfl (ok_P hk rfl) ?_
        refine rl_i1 dX5_engraveLetter_53 ?_
        refine rl_i6 dX5_engraveLetter_54 ?_
        obtain ⟨a2, e2, H⟩ := wp_b H
        refine rc_V2v dX5_engraveLetter_56 ml_X5_133 mc_X7_add (c_X7_add hk e2) rfl rfl rfl (ok_P hk rfl) rfl rfl rfl ?_
        refine rn_1_5 dX5_engraveLetter_59 rfl trivial ?_
        refine ar_goto 27 dX5_engraveLetter_62 (by decide) ?_
        exact am_V.wk (am_s (am_s (am_s (am_s (am_s (am_s (am_n am_0))))))) ((lp_in H) _ _ _ _ _ _ rfl)
theorem c_X5_engraveLetter {k : Nat} (hk : k < 10) {x1 : Int32} {h : am_H} {a : Int32 × am_H} (e : f_X5_engraveLetter k x1 h = some a) : am_Mi yX5_engraveLetter cX5_engraveLetter 7 (some .int) 3 66 [am_r (.inr k) 0, am_i x1] h a.1 a.2 := by
  refine am_M.ofi (A := [some (am_r (.inr k) 0), some (am_i x1), none, none, none, none, none]) (by decide +kernel) rfl (ble rfl) (fun Q hQ => ?_)
  have H : wp (f_X5_engraveLetter k x1 h) (fun a => Q (some (am_i a.1)) a.2) := ⟨_, e, hQ⟩
  unfold f_X5_engraveLetter at H
  refine rl_a0 dX5_engraveLetter_0 ?_
  refine rg_R (.inr k) 17 dX5_engraveLetter_1 fg_X5_42 rfl rfl rfl (ok_P hk rfl) ?_
  refine ar_getI dX5_engraveLetter_4 fg_X5_60 rfl rfl (ok_P hk rfl) ?_
  refine rs_i2 dX5_engraveLetter_7 rfl trivial ?_
  refine rl_a0 dX5_engraveLetter_8 ?_
  refine rl_i1 dX5_engraveLetter_9 ?_
  obtain ⟨a1, e1, H⟩ := wp_b H
  refine rc_V1i dX5_engraveLetter_10 ml_X5_112 mc_X5_hardnessUnder (c_X5_hardnessUnder hk e1) rfl rfl rfl (ok_P hk rfl) rfl rfl rfl ?_
  refine rs_i3 dX5_engraveLetter_13 rfl trivial ?_
  refine rl_a0 dX5_engraveLetter_14 ?_
  refine rg_R (.inr k) 6 dX5_engraveLetter_15 fg_X5_21 rfl rfl rfl (ok_P hk rfl) ?_
  refine rl_i1 dX5_engraveLetter_18 ?_
  obtain ⟨a2, e2, H⟩ := wp_b H
  refine rc_V1i dX5_engraveLetter_19 ml_X5_119 mc_X4_strokesOf (c_X4_strokesOf hk e2) rfl rfl rfl (ok_P hk rfl) rfl rfl rfl ?_
  refine rs_i4 dX5_engraveLetter_22 rfl trivial ?_
  refine ar_iconst (iI (0)) dX5_engraveLetter_24 rfl ?_
  refine rs_i5 dX5_engraveLetter_25 rfl trivial ?_
  exact am_V.wk (am_s (am_s (am_s (am_s (am_s (am_s (am_n am_0))))))) ((c_X5_engraveLetter_L hk _ H) _ _ _ _ _ _ rfl)
noncomputable def f_X5_canEngravePlanned (k : Nat) (h : am_H) : Option Int32 :=
  (f_X4_engravedLetters k h).bind (fun a1 => if (h.1 (.inr k) 6 4) ≤ a1 then (some ((iI (0)))) else ((f_X5_canEngraveAny k h).bind (fun a2 => if a2 = 0 then (some ((iI (0)))) else (some ((iI (1)))))))
theorem c_X5_canEngravePlanned {k : Nat} (hk : k < 10) {h : am_H} {a : Int32} (e : f_X5_canEngravePlanned k h = some a) : am_Mi yX5_canEngravePlanned cX5_canEngravePlanned 1 (some .boolean) 1 22 [am_r (.inr k) 0] h a h := by
  refine am_M.ofi (A := [some (am_r (.inr k) 0)]) (by decide +kernel) rfl (ble rfl) (fun Q hQ => ?_)
  have H : wp (f_X5_canEngravePlanned k h) (fun a => Q (some (am_i a)) h) := ⟨_, e, hQ⟩
  unfold f_X5_canEngravePlanned at H
  refine rl_a0 dX5_canEngravePlanned_0 ?_
  refine rg_R (.inr k) 6 dX5_canEngravePlanned_1 fg_X5_21 rfl rfl rfl (ok_P hk rfl) ?_
  obtain ⟨a1, e1, H⟩ := wp_b H
  refine rc_V0i dX5_canEngravePlanned_4 ml_X5_137 mc_X4_engravedLetters (c_X4_engravedLetters hk e1) rfl rfl rfl (ok_P hk rfl) rfl rfl rfl ?_
  refine rl_a0 dX5_canEngravePlanned_7 ?_
  refine rg_R (.inr k) 6 dX5_canEngravePlanned_8 fg_X5_21 rfl rfl rfl (ok_P hk rfl) ?_
  refine ar_getI dX5_canEngravePlanned_11 fg_X5_81 rfl rfl (ok_P hk rfl) ?_
  refine ar_ic_ge 28 dX5_canEngravePlanned_14 (by decide) (fun c1 => ?_) (fun c1 => ?_)
  · replace H := wp_t c1 H
    refine ar_iconst (iI (0)) dX5_canEngravePlanned_28 rfl ?_
    replace H := wp_s H
    exact ar_iret dX5_canEngravePlanned_29 rfl rfl H
  · replace H := wp_f c1 H
    refine rl_a0 dX5_canEngravePlanned_17 ?_
    obtain ⟨a2, e2, H⟩ := wp_b H
    refine rc_V0i dX5_canEngravePlanned_18 ml_X5_129 mc_X5_canEngraveAny (c_X5_canEngraveAny hk e2) rfl rfl rfl (ok_P hk rfl) rfl rfl rfl ?_
    refine ar_if_eq 28 dX5_canEngravePlanned_21 (by decide) (fun c2 => ?_) (fun c2 => ?_)
    · replace H := wp_t c2 H
      refine ar_iconst (iI (0)) dX5_canEngravePlanned_28 rfl ?_
      replace H := wp_s H
      exact ar_iret dX5_canEngravePlanned_29 rfl rfl H
    · replace H := wp_f c2 H
      refine ar_iconst (iI (1)) dX5_canEngravePlanned_24 rfl ?_
      refine ar_goto 29 dX5_canEngravePlanned_25 (by decide) ?_
      replace H := wp_s H
      exact ar_iret dX5_canEngravePlanned_29 rfl rfl H
noncomputable def s_X5_engravePlanned (k : Nat) : am_S am_H → Option (am_S am_H ⊕ (Int32 × am_H)) := fun s => match s with
  | (4, [x1, x2], [], [], h) => if (h.1 (.inr k) 6 4) ≤ x2 then (some (.inr ((x1, h)))) else ((f_X5_canEngrave k x2 h).bind (fun a1 => if a1 = 0 then (some (.inl (4, [x1, (x2 + 1)], [], [], h))) else ((f_X5_engraveLetter k x2 h).bind (fun a2 => some (.inl (4, [(x1 + 1), (x2 + 1)], [], [], a2.2))))))
  | _ => none
noncomputable def f_X5_engravePlanned_4 (k : Nat) (x1 : Int32) (x2 : Int32) (h : am_H) : Option (Int32 × am_H) := lp (s_X5_engravePlanned k) (4, [x1, x2], [], [], h)
theorem e_X5_engravePlanned_4 (k : Nat) (x1 : Int32) (x2 : Int32) (h : am_H) : f_X5_engravePlanned_4 k x1 x2 h = (if (h.1 (.inr k) 6 4) ≤ x2 then (some ((x1, h))) else ((f_X5_canEngrave k x2 h).bind (fun a1 => if a1 = 0 then (f_X5_engravePlanned_4 k x1 (x2 + 1) h) else ((f_X5_engraveLetter k x2 h).bind (fun a2 => f_X5_engravePlanned_4 k (x1 + 1) (x2 + 1) a2.2))))) := by
  show lp _ _ = _
  rw [lp_eq, s_X5_engravePlanned]
  simp only [lpk_i, lpk_b, lpk_l, lpk_n, lpk_j, lpk_r] <;> rfl
noncomputable def f_X5_engravePlanned (k : Nat) (h : am_H) : Option (Int32 × am_H) :=
  f_X5_engravePlanned_4 k (iI (0)) (iI (0)) h
theorem c_X5_engravePlanned_L {k : Nat} (hk : k < 10) {Q : Option am_v → am_H → Prop} : ∀ s, wp (lp (s_X5_engravePlanned k) s) (fun a => Q (some (am_i a.1)) a.2) → ((∀ x1 x2 h, s = (4, [x1, x2], [], [], h) → am_V RX5 cX5_engravePlanned 3 (some .int) 4 92 0 0 none (am_Tm cX5_engravePlanned (some .int) Q) 0 0 4 [some (am_r (.inr k) 0), some (am_i x1), some (am_i x2)] [] h)) := by
  refine lp_ind _ _ (fun s H => fun x1 x2 h e => ?_)
  · subst e
    rw [s_X5_engravePlanned] at H
    refine rl_i2 dX5_engravePlanned_4 ?_
    refine rl_a0 dX5_engravePlanned_5 ?_
    refine rg_R (.inr k) 6 dX5_engravePlanned_6 fg_X5_21 rfl rfl rfl (ok_P hk rfl) ?_
    refine ar_getI dX5_engravePlanned_9 fg_X5_81 rfl rfl (ok_P hk rfl) ?_
    refine ar_ic_ge 38 dX5_engravePlanned_12 (by decide) (fun c1 => ?_) (fun c1 => ?_)
    · replace H := wp_t c1 H
      refine rl_i1 dX5_engravePlanned_38 ?_
      replace H := lp_re H
      exact ar_iret dX5_engravePlanned_39 rfl rfl H
    · replace H := wp_f c1 H
      refine rl_a0 dX5_engravePlanned_15 ?_
      refine rl_i2 dX5_engravePlanned_16 ?_
      obtain ⟨a1, e1, H⟩ := wp_b H
      refine rc_V1i dX5_engravePlanned_17 ml_X5_141 mc_X5_canEngrave (c_X5_canEngrave hk e1) rfl rfl rfl (ok_P hk rfl) rfl rfl rfl ?_
      refine ar_if_eq 32 dX5_engravePlanned_20 (by decide) (fun c2 => ?_) (fun c2 => ?_)
      · replace H := wp_t c2 H
        refine rn_1_2 dX5_engravePlanned_32 rfl trivial ?_
        refine ar_goto 4 dX5_engravePlanned_35 (by decide) ?_
        exact am_V.wk (am_s (am_s (am_s am_0))) ((lp_in H) _ _ _ rfl)
      · replace H := wp_f c2 H
        refine rl_a0 dX5_engravePlanned_23 ?_
        refine rl_i2 dX5_engravePlanned_24 ?_
        obtain ⟨a2, e2, H⟩ := wp_b H
        refine rc_V1i dX5_engravePlanned_25 ml_X5_144 mc_X5_engraveLetter (c_X5_engraveLetter hk e2) rfl rfl rfl (ok_P hk rfl) rfl rfl rfl ?_
        refine ar_pop dX5_engravePlanned_28 trivial ?_
        refine rn_1_1 dX5_engravePlanned_29 rfl trivial ?_
        refine rn_1_2 dX5_engravePlanned_32 rfl trivial ?_
        refine ar_goto 4 dX5_engravePlanned_35 (by decide) ?_
        exact am_V.wk (am_s (am_s (am_s am_0))) ((lp_in H) _ _ _ rfl)
theorem c_X5_engravePlanned {k : Nat} (hk : k < 10) {h : am_H} {a : Int32 × am_H} (e : f_X5_engravePlanned k h = some a) : am_Mi yX5_engravePlanned cX5_engravePlanned 3 (some .int) 4 92 [am_r (.inr k) 0] h a.1 a.2 := by
  refine am_M.ofi (A := [some (am_r (.inr k) 0), none, none]) (by decide +kernel) rfl (ble rfl) (fun Q hQ => ?_)
  have H : wp (f_X5_engravePlanned k h) (fun a => Q (some (am_i a.1)) a.2) := ⟨_, e, hQ⟩
  unfold f_X5_engravePlanned at H
  refine ar_iconst (iI (0)) dX5_engravePlanned_0 rfl ?_
  refine rs_i1 dX5_engravePlanned_1 rfl trivial ?_
  refine ar_iconst (iI (0)) dX5_engravePlanned_2 rfl ?_
  refine rs_i2 dX5_engravePlanned_3 rfl trivial ?_
  exact am_V.wk (am_s (am_s (am_s am_0))) ((c_X5_engravePlanned_L hk _ H) _ _ _ rfl)
noncomputable def f_X5_canMend (k : Nat) (x1 : Int32) (h : am_H) : Option Int32 :=
  (f_X5_hasScratch k x1 h).bind (fun a1 => if a1 = 0 then (some ((iI (0)))) else (if ib x1 44 then (if ib (h.1 (.inr k) 18 x1.toNatClampNeg) 20 then (if (iI (3)) ≤ (h.1 (.inr k) 9 ((h.1 (.inr k) 18 x1.toNatClampNeg)).toNatClampNeg) then (some ((iI (0)))) else (some ((iI (1))))) else none) else none))
theorem c_X5_canMend {k : Nat} (hk : k < 10) {x1 : Int32} {h : am_H} {a : Int32} (e : f_X5_canMend k x1 h = some a) : am_Mi yX5_canMend cX5_canMend 2 (some .boolean) 2 43 [am_r (.inr k) 0, am_i x1] h a h := by
  refine am_M.ofi (A := [some (am_r (.inr k) 0), some (am_i x1)]) (by decide +kernel) rfl (ble rfl) (fun Q hQ => ?_)
  have H : wp (f_X5_canMend k x1 h) (fun a => Q (some (am_i a)) h) := ⟨_, e, hQ⟩
  unfold f_X5_canMend at H
  refine rl_a0 dX5_canMend_0 ?_
  refine rl_i1 dX5_canMend_1 ?_
  obtain ⟨a1, e1, H⟩ := wp_b H
  refine rc_V1i dX5_canMend_2 ml_X5_147 mc_X5_hasScratch (c_X5_hasScratch hk e1) rfl rfl rfl (ok_P hk rfl) rfl rfl rfl ?_
  refine ar_if_eq 33 dX5_canMend_5 (by decide) (fun c1 => ?_) (fun c1 => ?_)
  · replace H := wp_t c1 H
    refine ar_iconst (iI (0)) dX5_canMend_33 rfl ?_
    replace H := wp_s H
    exact ar_iret dX5_canMend_34 rfl rfl H
  · replace H := wp_f c1 H
    refine rl_a0 dX5_canMend_8 ?_
    refine rg_R (.inr k) 6 dX5_canMend_9 fg_X5_21 rfl rfl rfl (ok_P hk rfl) ?_
    refine rg_R (.inr k) 9 dX5_canMend_12 fg_X5_150 rfl rfl rfl (ok_P hk rfl) ?_
    refine rl_a0 dX5_canMend_15 ?_
    refine rg_R (.inr k) 17 dX5_canMend_16 fg_X5_42 rfl rfl rfl (ok_P hk rfl) ?_
    refine rg_R (.inr k) 18 dX5_canMend_19 fg_X5_154 rfl rfl rfl (ok_P hk rfl) ?_
    refine rl_i1 dX5_canMend_22 ?_
    obtain ⟨b1, H⟩ := wp_g H
    refine ar_iald dX5_canMend_23 rfl (ok_P hk rfl) (ib_in b1) ?_
    obtain ⟨b2, H⟩ := wp_g H
    refine ar_iald dX5_canMend_24 rfl (ok_P hk rfl) (ib_in b2) ?_
    refine ar_iconst (iI (3)) dX5_canMend_25 rfl ?_
    refine ar_ic_ge 33 dX5_canMend_26 (by decide) (fun c2 => ?_) (fun c2 => ?_)
    · replace H := wp_t c2 H
      refine ar_iconst (iI (0)) dX5_canMend_33 rfl ?_
      replace H := wp_s H
      exact ar_iret dX5_canMend_34 rfl rfl H
    · replace H := wp_f c2 H
      refine ar_iconst (iI (1)) dX5_canMend_29 rfl ?_
      refine ar_goto 34 dX5_canMend_30 (by decide) ?_
      replace H := wp_s H
      exact ar_iret dX5_canMend_34 rfl rfl H
noncomputable def f_X5_mendScratch (k : Nat) (x1 : Int32) (h : am_H) : Option (Int32 × am_H) :=
  if ib x1 44 then (if ib (h.1 (.inr k) 18 x1.toNatClampNeg) 20 then (if ib (h.1 (.inr k) 18 x1.toNatClampNeg) 20 then (am_lt (am_u h (.inr k) 9 (((h.1 (.inr k) 18 x1.toNatClampNeg)).toNatClampNeg) ((h.1 (.inr k) 9 ((h.1 (.inr k) 18 x1.toNatClampNeg)).toNatClampNeg) + (iI (1)))) (fun h1 => (f_X7_remove k x1 h1).bind (fun a1 => some (((a1.1 (.inr k) 17 2), a1))))) else none) else none) else none
theorem c_X5_mendScratch {k : Nat} (hk : k < 10) {x1 : Int32} {h : am_H} {a : Int32 × am_H} (e : f_X5_mendScratch k x1 h = some a) : am_Mi yX5_mendScratch cX5_mendScratch 2 (some .int) 1 22 [am_r (.inr k) 0, am_i x1] h a.1 a.2 := by
  refine am_M.ofi (A := [some (am_r (.inr k) 0), some (am_i x1)]) (by decide +kernel) rfl (ble rfl) (fun Q hQ => ?_)
  have H : wp (f_X5_mendScratch k x1 h) (fun a => Q (some (am_i a.1)) a.2) := ⟨_, e, hQ⟩
  unfold f_X5_mendScratch at H
  refine rl_a0 dX5_mendScratch_0 ?_
  refine rg_R (.inr k) 6 dX5_mendScratch_1 fg_X5_21 rfl rfl rfl (ok_P hk rfl) ?_
  refine rg_R (.inr k) 9 dX5_mendScratch_4 fg_X5_150 rfl rfl rfl (ok_P hk rfl) ?_
  refine rl_a0 dX5_mendScratch_7 ?_
  refine rg_R (.inr k) 17 dX5_mendScratch_8 fg_X5_42 rfl rfl rfl (ok_P hk rfl) ?_
  refine rg_R (.inr k) 18 dX5_mendScratch_11 fg_X5_154 rfl rfl rfl (ok_P hk rfl) ?_
  refine rl_i1 dX5_mendScratch_14 ?_
  obtain ⟨b1, H⟩ := wp_g H
  refine ar_iald dX5_mendScratch_15 rfl (ok_P hk rfl) (ib_in b1) ?_
  refine ar_dup2 dX5_mendScratch_16 trivial trivial ?_
  obtain ⟨b2, H⟩ := wp_g H
  refine ar_iald dX5_mendScratch_17 rfl (ok_P hk rfl) (ib_in b2) ?_
  refine ar_iconst (iI (1)) dX5_mendScratch_18 rfl ?_
  refine ar_iadd dX5_mendScratch_19 ?_
  obtain ⟨b3, H⟩ := wp_g H
  refine ar_iast dX5_mendScratch_20 rfl (ok_P hk rfl) (ib_in b3) ?_
  replace H := wp_l H
  generalize am_u h (.inr k) 9 (((h.1 (.inr k) 18 x1.toNatClampNeg)).toNatClampNeg) ((h.1 (.inr k) 9 ((h.1 (.inr k) 18 x1.toNatClampNeg)).toNatClampNeg) + (iI (1))) = h1 at H ⊢
  refine rl_a0 dX5_mendScratch_21 ?_
  refine rg_R (.inr k) 17 dX5_mendScratch_22 fg_X5_42 rfl rfl rfl (ok_P hk rfl) ?_
  refine rl_i1 dX5_mendScratch_25 ?_
  obtain ⟨a1, e1, H⟩ := wp_b H
  refine rc_V1v dX5_mendScratch_26 ml_X5_156 mc_X7_remove (c_X7_remove hk e1) rfl rfl rfl (ok_P hk rfl) rfl rfl rfl ?_
  refine rl_a0 dX5_mendScratch_29 ?_
  refine rg_R (.inr k) 17 dX5_mendScratch_30 fg_X5_42 rfl rfl rfl (ok_P hk rfl) ?_
  refine ar_getI dX5_mendScratch_33 fg_X5_60 rfl rfl (ok_P hk rfl) ?_
  replace H := wp_s H
  exact ar_iret dX5_mendScratch_36 rfl rfl H
noncomputable def f_X5_canPolish (k : Nat) (x1 : Int32) (h : am_H) : Option Int32 :=
  (f_X5_hasLetter k x1 h).bind (fun a1 => if a1 = 0 then (some ((iI (0)))) else (if ib x1 20 then (if (h.1 (.inr k) 8 x1.toNatClampNeg) = 0 then (some ((iI (0)))) else (if ib x1 20 then (if (iI (3)) ≤ (h.1 (.inr k) 9 x1.toNatClampNeg) then (some ((iI (0)))) else (some ((iI (1))))) else none)) else none))
theorem c_X5_canPolish {k : Nat} (hk : k < 10) {x1 : Int32} {h : am_H} {a : Int32} (e : f_X5_canPolish k x1 h = some a) : am_Mi yX5_canPolish cX5_canPolish 2 (some .boolean) 2 43 [am_r (.inr k) 0, am_i x1] h a h := by
  refine am_M.ofi (A := [some (am_r (.inr k) 0), some (am_i x1)]) (by decide +kernel) rfl (ble rfl) (fun Q hQ => ?_)
  have H : wp (f_X5_canPolish k x1 h) (fun a => Q (some (am_i a)) h) := ⟨_, e, hQ⟩
  unfold f_X5_canPolish at H
  refine rl_a0 dX5_canPolish_0 ?_
  refine rl_i1 dX5_canPolish_1 ?_
  obtain ⟨a1, e1, H⟩ := wp_b H
  refine rc_V1i dX5_canPolish_2 ml_X5_125 mc_X5_hasLetter (c_X5_hasLetter hk e1) rfl rfl rfl (ok_P hk rfl) rfl rfl rfl ?_
  refine ar_if_eq 37 dX5_canPolish_5 (by decide) (fun c1 => ?_) (fun c1 => ?_)
  · replace H := wp_t c1 H
    refine ar_iconst (iI (0)) dX5_canPolish_37 rfl ?_
    replace H := wp_s H
    exact ar_iret dX5_canPolish_38 rfl rfl H
  · replace H := wp_f c1 H
    refine rl_a0 dX5_canPolish_8 ?_
    refine rg_R (.inr k) 6 dX5_canPolish_9 fg_X5_21 rfl rfl rfl (ok_P hk rfl) ?_
    refine rg_R (.inr k) 8 dX5_canPolish_12 fg_X5_115 rfl rfl rfl (ok_P hk rfl) ?_
    refine rl_i1 dX5_canPolish_15 ?_
    obtain ⟨b1, H⟩ := wp_g H
    refine ar_zald dX5_canPolish_16 rfl (ok_P hk rfl) (ib_in b1) ?_
    refine ar_if_eq 37 dX5_canPolish_17 (by decide) (fun c2 => ?_) (fun c2 => ?_)
    · replace H := wp_t c2 H
      refine ar_iconst (iI (0)) dX5_canPolish_37 rfl ?_
      replace H := wp_s H
      exact ar_iret dX5_canPolish_38 rfl rfl H
    · replace H := wp_f c2 H
      refine rl_a0 dX5_canPolish_20 ?_
      refine rg_R (.inr k) 6 dX5_canPolish_21 fg_X5_21 rfl rfl rfl (ok_P hk rfl) ?_
      refine rg_R (.inr k) 9 dX5_canPolish_24 fg_X5_150 rfl rfl rfl (ok_P hk rfl) ?_
      refine rl_i1 dX5_canPolish_27 ?_
      obtain ⟨b2, H⟩ := wp_g H
      refine ar_iald dX5_canPolish_28 rfl (ok_P hk rfl) (ib_in b2) ?_
      refine ar_iconst (iI (3)) dX5_canPolish_29 rfl ?_
      refine ar_ic_ge 37 dX5_canPolish_30 (by decide) (fun c3 => ?_) (fun c3 => ?_)
      · replace H := wp_t c3 H
        refine ar_iconst (iI (0)) dX5_canPolish_37 rfl ?_
        replace H := wp_s H
        exact ar_iret dX5_canPolish_38 rfl rfl H
      · replace H := wp_f c3 H
        refine ar_iconst (iI (1)) dX5_canPolish_33 rfl ?_
        refine ar_goto 38 dX5_canPolish_34 (by decide) ?_
        replace H := wp_s H
        exact ar_iret dX5_canPolish_38 rfl rfl H
noncomputable def f_X5_polishLetter (k : Nat) (x1 : Int32) (h : am_H) : Option (Int32 × am_H) :=
  if ib x1 20 then (am_lt (am_u h (.inr k) 8 x1.toNatClampNeg (vp_nar .boolean (iI (0)))) (fun h1 => if ib x1 20 then (if ib x1 20 then (am_lt (am_u h1 (.inr k) 9 x1.toNatClampNeg ((h1.1 (.inr k) 9 x1.toNatClampNeg) + (iI (1)))) (fun h2 => (f_X7_removeAllOf k x1 h2).bind (fun a1 => some ((a1.1, a1.2))))) else none) else none)) else none
theorem c_X5_polishLetter {k : Nat} (hk : k < 10) {x1 : Int32} {h : am_H} {a : Int32 × am_H} (e : f_X5_polishLetter k x1 h = some a) : am_Mi yX5_polishLetter cX5_polishLetter 2 (some .int) 1 23 [am_r (.inr k) 0, am_i x1] h a.1 a.2 := by
  refine am_M.ofi (A := [some (am_r (.inr k) 0), some (am_i x1)]) (by decide +kernel) rfl (ble rfl) (fun Q hQ => ?_)
  have H : wp (f_X5_polishLetter k x1 h) (fun a => Q (some (am_i a.1)) a.2) := ⟨_, e, hQ⟩
  unfold f_X5_polishLetter at H
  refine rl_a0 dX5_polishLetter_0 ?_
  refine rg_R (.inr k) 6 dX5_polishLetter_1 fg_X5_21 rfl rfl rfl (ok_P hk rfl) ?_
  refine rg_R (.inr k) 8 dX5_polishLetter_4 fg_X5_115 rfl rfl rfl (ok_P hk rfl) ?_
  refine rl_i1 dX5_polishLetter_7 ?_
  refine ar_iconst (iI (0)) dX5_polishLetter_8 rfl ?_
  obtain ⟨b1, H⟩ := wp_g H
  refine ar_zast dX5_polishLetter_9 rfl (ok_P hk rfl) (ib_in b1) ?_
  replace H := wp_l H
  generalize am_u h (.inr k) 8 x1.toNatClampNeg (vp_nar .boolean (iI (0))) = h1 at H ⊢
  refine rl_a0 dX5_polishLetter_10 ?_
  refine rg_R (.inr k) 6 dX5_polishLetter_11 fg_X5_21 rfl rfl rfl (ok_P hk rfl) ?_
  refine rg_R (.inr k) 9 dX5_polishLetter_14 fg_X5_150 rfl rfl rfl (ok_P hk rfl) ?_
  refine rl_i1 dX5_polishLetter_17 ?_
  refine ar_dup2 dX5_polishLetter_18 trivial trivial ?_
  obtain ⟨b2, H⟩ := wp_g H
  refine ar_iald dX5_polishLetter_19 rfl (ok_P hk rfl) (ib_in b2) ?_
  refine ar_iconst (iI (1)) dX5_polishLetter_20 rfl ?_
  refine ar_iadd dX5_polishLetter_21 ?_
  obtain ⟨b3, H⟩ := wp_g H
  refine ar_iast dX5_polishLetter_22 rfl (ok_P hk rfl) (ib_in b3) ?_
  replace H := wp_l H
  generalize am_u h1 (.inr k) 9 x1.toNatClampNeg ((h1.1 (.inr k) 9 x1.toNatClampNeg) + (iI (1))) = h2 at H ⊢
  refine rl_a0 dX5_polishLetter_23 ?_
  refine rg_R (.inr k) 17 dX5_polishLetter_24 fg_X5_42 rfl rfl rfl (ok_P hk rfl) ?_
  refine rl_i1 dX5_polishLetter_27 ?_
  obtain ⟨a1, e1, H⟩ := wp_b H
  refine rc_V1i dX5_polishLetter_28 ml_X5_160 mc_X7_removeAllOf (c_X7_removeAllOf hk e1) rfl rfl rfl (ok_P hk rfl) rfl rfl rfl ?_
  replace H := wp_s H
  exact ar_iret dX5_polishLetter_31 rfl rfl H
