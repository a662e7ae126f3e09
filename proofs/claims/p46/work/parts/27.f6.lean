noncomputable def s_X11_spoiledLetters  : am_S am_H → Option (am_S am_H ⊕ (Int32 × am_H)) := fun s => match s with
  | (15, [x1, x2], [], [], h) => if (h.1 (.inr 0) 6 4) ≤ x2 then (some (.inr ((x1, h)))) else ((f_X3_isSpoiled 0 x2 h).bind (fun a1 => if a1 = 0 then (some (.inl (15, [x1, (x2 + 1)], [], [], h))) else (some (.inl (15, [(x1 + 1), (x2 + 1)], [], [], h)))))
  | _ => none
noncomputable def f_X11_spoiledLetters_15  (x1 : Int32) (x2 : Int32) (h : am_H) : Option (Int32 × am_H) := lp (s_X11_spoiledLetters) (15, [x1, x2], [], [], h)
theorem e_X11_spoiledLetters_15  (x1 : Int32) (x2 : Int32) (h : am_H) : f_X11_spoiledLetters_15 x1 x2 h = (if (h.1 (.inr 0) 6 4) ≤ x2 then (some ((x1, h))) else ((f_X3_isSpoiled 0 x2 h).bind (fun a1 => if a1 = 0 then (f_X11_spoiledLetters_15 x1 (x2 + 1) h) else (f_X11_spoiledLetters_15 (x1 + 1) (x2 + 1) h)))) := by
  show lp _ _ = _
  rw [lp_eq, s_X11_spoiledLetters]
  simp only [lpk_i, lpk_b, lpk_l, lpk_n, lpk_j, lpk_r] <;> rfl
noncomputable def f_X11_spoiledLetters  (h : am_H) : Option (Int32 × am_H) :=
  (f_X3_measure 0 h).bind (fun a1 => f_X11_spoiledLetters_15 (iI (0)) (iI (0)) a1)
theorem c_X11_spoiledLetters_L  {Q : Option am_v → am_H → Prop} : ∀ s, wp (lp (s_X11_spoiledLetters) s) (fun a => Q (some (am_i a.1)) a.2) → ((∀ x1 x2 h, s = (15, [x1, x2], [], [], h) → am_V RX11 cX11_spoiledLetters 3 (some .int) 4 93 0 0 none (am_Tm cX11_spoiledLetters (some .int) Q) 0 0 15 [some (am_r (.inl 1) 0), some (am_i x1), some (am_i x2)] [] h)) := by
  refine lp_ind _ _ (fun s H => fun x1 x2 h e => ?_)
  · subst e
    rw [s_X11_spoiledLetters] at H
    refine rl_i2 dX11_spoiledLetters_15 ?_
    refine rl_a0 dX11_spoiledLetters_16 ?_
    refine rg_R (.inr 0) 0 dX11_spoiledLetters_17 fg_X11_12 rfl rfl rfl (ok_X rfl) ?_
    refine rg_R (.inr 0) 6 dX11_spoiledLetters_20 fg_X11_108 rfl rfl rfl (ok_P (by decide) rfl) ?_
    refine ar_getI dX11_spoiledLetters_23 fg_X11_112 rfl rfl (ok_P (by decide) rfl) ?_
    refine ar_ic_ge 53 dX11_spoiledLetters_26 (by decide) (fun c1 => ?_) (fun c1 => ?_)
    · replace H := wp_t c1 H
      refine rl_i1 dX11_spoiledLetters_53 ?_
      replace H := lp_re H
      exact ar_iret dX11_spoiledLetters_54 rfl rfl H
    · replace H := wp_f c1 H
      refine rl_a0 dX11_spoiledLetters_29 ?_
      refine rg_R (.inl 1) 3 dX11_spoiledLetters_30 fg_X11_39 rfl rfl rfl (ok_X rfl) ?_
      refine rl_a0 dX11_spoiledLetters_33 ?_
      refine rg_R (.inr 0) 0 dX11_spoiledLetters_34 fg_X11_12 rfl rfl rfl (ok_X rfl) ?_
      refine rl_i2 dX11_spoiledLetters_37 ?_
      obtain ⟨a1, e1, H⟩ := wp_b H
      refine rc_V2i dX11_spoiledLetters_38 ml_X11_452 mc_X3_isSpoiled (c_X3_isSpoiled (by decide) e1) rfl rfl rfl (ok_X rfl) rfl rfl rfl ?_
      refine ar_if_eq 47 dX11_spoiledLetters_41 (by decide) (fun c2 => ?_) (fun c2 => ?_)
      · replace H := wp_t c2 H
        refine rn_1_2 dX11_spoiledLetters_47 rfl trivial ?_
        refine ar_goto 15 dX11_spoiledLetters_50 (by decide) ?_
        exact am_V.wk (am_s (am_s (am_s am_0))) ((lp_in H) _ _ _ rfl)
      · replace H := wp_f c2 H
        refine rn_1_1 dX11_spoiledLetters_44 rfl trivial ?_
        refine rn_1_2 dX11_spoiledLetters_47 rfl trivial ?_
        refine ar_goto 15 dX11_spoiledLetters_50 (by decide) ?_
        exact am_V.wk (am_s (am_s (am_s am_0))) ((lp_in H) _ _ _ rfl)
theorem c_X11_spoiledLetters  {h : am_H} {a : Int32 × am_H} (e : f_X11_spoiledLetters h = some a) : am_Mi yX11_spoiledLetters cX11_spoiledLetters 3 (some .int) 4 93 [am_r (.inl 1) 0] h a.1 a.2 := by
  refine am_M.ofi (A := [some (am_r (.inl 1) 0), none, none]) (by decide +kernel) rfl (ble rfl) (fun Q hQ => ?_)
  have H : wp (f_X11_spoiledLetters h) (fun a => Q (some (am_i a.1)) a.2) := ⟨_, e, hQ⟩
  unfold f_X11_spoiledLetters at H
  refine rl_a0 dX11_spoiledLetters_0 ?_
  refine rg_R (.inl 1) 3 dX11_spoiledLetters_1 fg_X11_39 rfl rfl rfl (ok_X rfl) ?_
  refine rl_a0 dX11_spoiledLetters_4 ?_
  refine rg_R (.inr 0) 0 dX11_spoiledLetters_5 fg_X11_12 rfl rfl rfl (ok_X rfl) ?_
  obtain ⟨a1, e1, H⟩ := wp_b H
  refine rc_V1v dX11_spoiledLetters_8 ml_X11_317 mc_X3_measure (c_X3_measure (by decide) e1) rfl rfl rfl (ok_X rfl) rfl rfl rfl ?_
  refine ar_iconst (iI (0)) dX11_spoiledLetters_11 rfl ?_
  refine rs_i1 dX11_spoiledLetters_12 rfl trivial ?_
  refine ar_iconst (iI (0)) dX11_spoiledLetters_13 rfl ?_
  refine rs_i2 dX11_spoiledLetters_14 rfl trivial ?_
  exact am_V.wk (am_s (am_s (am_s am_0))) ((c_X11_spoiledLetters_L  _ H) _ _ _ rfl)
noncomputable def f_X11_isSpoiled (x1 : Int32) (h : am_H) : Option (Int32 × am_H) :=
  (f_X3_measure 0 h).bind (fun a1 => (f_X3_isSpoiled 0 x1 a1).bind (fun a2 => if zb a2 then (some ((a2, a1))) else none))
theorem c_X11_isSpoiled {x1 : Int32} {h : am_H} {a : Int32 × am_H} (e : f_X11_isSpoiled x1 h = some a) : am_Mi yX11_isSpoiled cX11_isSpoiled 2 (some .boolean) 4 93 [am_r (.inl 1) 0, am_i x1] h a.1 a.2 := by
  refine am_M.ofi (A := [some (am_r (.inl 1) 0), some (am_i x1)]) (by decide +kernel) rfl (ble rfl) (fun Q hQ => ?_)
  have H : wp (f_X11_isSpoiled x1 h) (fun a => Q (some (am_i a.1)) a.2) := ⟨_, e, hQ⟩
  unfold f_X11_isSpoiled at H
  refine rl_a0 dX11_isSpoiled_0 ?_
  refine rg_R (.inl 1) 3 dX11_isSpoiled_1 fg_X11_39 rfl rfl rfl (ok_X rfl) ?_
  refine rl_a0 dX11_isSpoiled_4 ?_
  refine rg_R (.inr 0) 0 dX11_isSpoiled_5 fg_X11_12 rfl rfl rfl (ok_X rfl) ?_
  obtain ⟨a1, e1, H⟩ := wp_b H
  refine rc_V1v dX11_isSpoiled_8 ml_X11_317 mc_X3_measure (c_X3_measure (by decide) e1) rfl rfl rfl (ok_X rfl) rfl rfl rfl ?_
  refine rl_a0 dX11_isSpoiled_11 ?_
  refine rg_R (.inl 1) 3 dX11_isSpoiled_12 fg_X11_39 rfl rfl rfl (ok_X rfl) ?_
  refine rl_a0 dX11_isSpoiled_15 ?_
  refine rg_R (.inr 0) 0 dX11_isSpoiled_16 fg_X11_12 rfl rfl rfl (ok_X rfl) ?_
  refine rl_i1 dX11_isSpoiled_19 ?_
  obtain ⟨a2, e2, H⟩ := wp_b H
  refine rc_V2i dX11_isSpoiled_20 ml_X11_452 mc_X3_isSpoiled (c_X3_isSpoiled (by decide) e2) rfl rfl rfl (ok_X rfl) rfl rfl rfl ?_
  obtain ⟨b1, H⟩ := wp_g H
  replace H := wp_s H
  exact ar_iret dX11_isSpoiled_23 rfl (zb_n b1) H
noncomputable def f_X11_letterSpoiledBy (x1 : Int32) (h : am_H) : Option (Int32 × am_H) :=
  (f_X3_measure 0 h).bind (fun a1 => (f_X3_letterSpoiledBy 0 x1 a1).bind (fun a2 => some ((a2, a1))))
theorem c_X11_letterSpoiledBy {x1 : Int32} {h : am_H} {a : Int32 × am_H} (e : f_X11_letterSpoiledBy x1 h = some a) : am_Mi yX11_letterSpoiledBy cX11_letterSpoiledBy 2 (some .int) 4 93 [am_r (.inl 1) 0, am_i x1] h a.1 a.2 := by
  refine am_M.ofi (A := [some (am_r (.inl 1) 0), some (am_i x1)]) (by decide +kernel) rfl (ble rfl) (fun Q hQ => ?_)
  have H : wp (f_X11_letterSpoiledBy x1 h) (fun a => Q (some (am_i a.1)) a.2) := ⟨_, e, hQ⟩
  unfold f_X11_letterSpoiledBy at H
  refine rl_a0 dX11_letterSpoiledBy_0 ?_
  refine rg_R (.inl 1) 3 dX11_letterSpoiledBy_1 fg_X11_39 rfl rfl rfl (ok_X rfl) ?_
  refine rl_a0 dX11_letterSpoiledBy_4 ?_
  refine rg_R (.inr 0) 0 dX11_letterSpoiledBy_5 fg_X11_12 rfl rfl rfl (ok_X rfl) ?_
  obtain ⟨a1, e1, H⟩ := wp_b H
  refine rc_V1v dX11_letterSpoiledBy_8 ml_X11_317 mc_X3_measure (c_X3_measure (by decide) e1) rfl rfl rfl (ok_X rfl) rfl rfl rfl ?_
  refine rl_a0 dX11_letterSpoiledBy_11 ?_
  refine rg_R (.inl 1) 3 dX11_letterSpoiledBy_12 fg_X11_39 rfl rfl rfl (ok_X rfl) ?_
  refine rl_a0 dX11_letterSpoiledBy_15 ?_
  refine rg_R (.inr 0) 0 dX11_letterSpoiledBy_16 fg_X11_12 rfl rfl rfl (ok_X rfl) ?_
  refine rl_i1 dX11_letterSpoiledBy_19 ?_
  obtain ⟨a2, e2, H⟩ := wp_b H
  refine rc_V2i dX11_letterSpoiledBy_20 ml_X11_471 mc_X3_letterSpoiledBy (c_X3_letterSpoiledBy (by decide) e2) rfl rfl rfl (ok_X rfl) rfl rfl rfl ?_
  replace H := wp_s H
  exact ar_iret dX11_letterSpoiledBy_23 rfl rfl H
noncomputable def f_X11_crowded  (h : am_H) : Option (Int32 × am_H) :=
  (f_X3_measure 0 h).bind (fun a1 => (f_X3_crowdedRooms (a1.1 (.inr 0) 0 5) a1).bind (fun a2 => some ((a2, a1))))
theorem c_X11_crowded  {h : am_H} {a : Int32 × am_H} (e : f_X11_crowded h = some a) : am_Mi yX11_crowded cX11_crowded 1 (some .int) 4 93 [am_r (.inl 1) 0] h a.1 a.2 := by
  refine am_M.ofi (A := [some (am_r (.inl 1) 0)]) (by decide +kernel) rfl (ble rfl) (fun Q hQ => ?_)
  have H : wp (f_X11_crowded h) (fun a => Q (some (am_i a.1)) a.2) := ⟨_, e, hQ⟩
  unfold f_X11_crowded at H
  refine rl_a0 dX11_crowded_0 ?_
  refine rg_R (.inl 1) 3 dX11_crowded_1 fg_X11_39 rfl rfl rfl (ok_X rfl) ?_
  refine rl_a0 dX11_crowded_4 ?_
  refine rg_R (.inr 0) 0 dX11_crowded_5 fg_X11_12 rfl rfl rfl (ok_X rfl) ?_
  obtain ⟨a1, e1, H⟩ := wp_b H
  refine rc_V1v dX11_crowded_8 ml_X11_317 mc_X3_measure (c_X3_measure (by decide) e1) rfl rfl rfl (ok_X rfl) rfl rfl rfl ?_
  refine rl_a0 dX11_crowded_11 ?_
  refine rg_R (.inl 1) 3 dX11_crowded_12 fg_X11_39 rfl rfl rfl (ok_X rfl) ?_
  refine rl_a0 dX11_crowded_15 ?_
  refine rg_R (.inr 0) 0 dX11_crowded_16 fg_X11_12 rfl rfl rfl (ok_X rfl) ?_
  refine ar_getI dX11_crowded_19 fg_X11_167 rfl rfl (ok_P (by decide) rfl) ?_
  obtain ⟨a2, e2, H⟩ := wp_b H
  refine rc_V1i dX11_crowded_22 ml_X11_323 mc_X3_crowdedRooms (c_X3_crowdedRooms e2) rfl rfl rfl (ok_X rfl) rfl rfl rfl ?_
  replace H := wp_s H
  exact ar_iret dX11_crowded_25 rfl rfl H
noncomputable def f_X11_tightest  (h : am_H) : Option (Int32 × am_H) :=
  (f_X3_measure 0 h).bind (fun a1 => (f_X3_tightestRoom a1).bind (fun a2 => some ((a2, a1))))
theorem c_X11_tightest  {h : am_H} {a : Int32 × am_H} (e : f_X11_tightest h = some a) : am_Mi yX11_tightest cX11_tightest 1 (some .int) 4 93 [am_r (.inl 1) 0] h a.1 a.2 := by
  refine am_M.ofi (A := [some (am_r (.inl 1) 0)]) (by decide +kernel) rfl (ble rfl) (fun Q hQ => ?_)
  have H : wp (f_X11_tightest h) (fun a => Q (some (am_i a.1)) a.2) := ⟨_, e, hQ⟩
  unfold f_X11_tightest at H
  refine rl_a0 dX11_tightest_0 ?_
  refine rg_R (.inl 1) 3 dX11_tightest_1 fg_X11_39 rfl rfl rfl (ok_X rfl) ?_
  refine rl_a0 dX11_tightest_4 ?_
  refine rg_R (.inr 0) 0 dX11_tightest_5 fg_X11_12 rfl rfl rfl (ok_X rfl) ?_
  obtain ⟨a1, e1, H⟩ := wp_b H
  refine rc_V1v dX11_tightest_8 ml_X11_317 mc_X3_measure (c_X3_measure (by decide) e1) rfl rfl rfl (ok_X rfl) rfl rfl rfl ?_
  refine rl_a0 dX11_tightest_11 ?_
  refine rg_R (.inl 1) 3 dX11_tightest_12 fg_X11_39 rfl rfl rfl (ok_X rfl) ?_
  obtain ⟨a2, e2, H⟩ := wp_b H
  refine rc_V0i dX11_tightest_15 ml_X11_326 mc_X3_tightestRoom (c_X3_tightestRoom e2) rfl rfl rfl (ok_X rfl) rfl rfl rfl ?_
  replace H := wp_s H
  exact ar_iret dX11_tightest_18 rfl rfl H
noncomputable def f_X11_worth  (h : am_H) : Option (Int32 × am_H) :=
  (f_X3_fill 0 h).bind (fun a1 => (f_X3_worthOfFillings 0 a1).bind (fun a2 => some ((a2, a1))))
theorem c_X11_worth  {h : am_H} {a : Int32 × am_H} (e : f_X11_worth h = some a) : am_Mi yX11_worth cX11_worth 1 (some .int) 5 115 [am_r (.inl 1) 0] h a.1 a.2 := by
  refine am_M.ofi (A := [some (am_r (.inl 1) 0)]) (by decide +kernel) rfl (ble rfl) (fun Q hQ => ?_)
  have H : wp (f_X11_worth h) (fun a => Q (some (am_i a.1)) a.2) := ⟨_, e, hQ⟩
  unfold f_X11_worth at H
  refine rl_a0 dX11_worth_0 ?_
  refine rg_R (.inl 1) 3 dX11_worth_1 fg_X11_39 rfl rfl rfl (ok_X rfl) ?_
  refine rl_a0 dX11_worth_4 ?_
  refine rg_R (.inr 0) 0 dX11_worth_5 fg_X11_12 rfl rfl rfl (ok_X rfl) ?_
  obtain ⟨a1, e1, H⟩ := wp_b H
  refine rc_V1v dX11_worth_8 ml_X11_329 mc_X3_fill (c_X3_fill (by decide) e1) rfl rfl rfl (ok_X rfl) rfl rfl rfl ?_
  refine rl_a0 dX11_worth_11 ?_
  refine rg_R (.inl 1) 3 dX11_worth_12 fg_X11_39 rfl rfl rfl (ok_X rfl) ?_
  refine rl_a0 dX11_worth_15 ?_
  refine rg_R (.inr 0) 0 dX11_worth_16 fg_X11_12 rfl rfl rfl (ok_X rfl) ?_
  refine rg_R (.inr 0) 11 dX11_worth_19 fg_X11_145 rfl rfl rfl (ok_P (by decide) rfl) ?_
  obtain ⟨a2, e2, H⟩ := wp_b H
  refine rc_V1i dX11_worth_22 ml_X11_338 mc_X3_worthOfFillings (c_X3_worthOfFillings (by decide) e2) rfl rfl rfl (ok_X rfl) rfl rfl rfl ?_
  replace H := wp_s H
  exact ar_iret dX11_worth_25 rfl rfl H
noncomputable def f_X11_slipsWith (x1 : Int32) (h : am_H) : Option (Int32 × am_H) :=
  (f_X1_copyFrom (.inl 1) 2 (.inr 0) 16 h).bind (fun a1 => am_lt (am_u a1 (.inl 1) 2 0 x1) (fun h1 => (f_X5_slipsBy 0 h1).bind (fun a2 => some ((a2.1, a2.2)))))
theorem c_X11_slipsWith {x1 : Int32} {h : am_H} {a : Int32 × am_H} (e : f_X11_slipsWith x1 h = some a) : am_Mi yX11_slipsWith cX11_slipsWith 2 (some .int) 4 92 [am_r (.inl 1) 0, am_i x1] h a.1 a.2 := by
  refine am_M.ofi (A := [some (am_r (.inl 1) 0), some (am_i x1)]) (by decide +kernel) rfl (ble rfl) (fun Q hQ => ?_)
  have H : wp (f_X11_slipsWith x1 h) (fun a => Q (some (am_i a.1)) a.2) := ⟨_, e, hQ⟩
  unfold f_X11_slipsWith at H
  refine rl_a0 dX11_slipsWith_0 ?_
  refine rg_R (.inl 1) 2 dX11_slipsWith_1 fg_X11_32 rfl rfl rfl (ok_X rfl) ?_
  refine rl_a0 dX11_slipsWith_4 ?_
  refine rg_R (.inr 0) 0 dX11_slipsWith_5 fg_X11_12 rfl rfl rfl (ok_X rfl) ?_
  refine rg_R (.inr 0) 16 dX11_slipsWith_8 fg_X11_161 rfl rfl rfl (ok_P (by decide) rfl) ?_
  obtain ⟨a1, e1, H⟩ := wp_b H
  refine rc_V1v dX11_slipsWith_11 ml_X11_474 mc_X1_copyFrom (c_X1_copyFrom rfl (ok_X rfl) rfl (ok_P (by decide) rfl) e1) rfl rfl rfl (ok_X rfl) rfl rfl rfl ?_
  refine rl_a0 dX11_slipsWith_14 ?_
  refine rg_R (.inl 1) 2 dX11_slipsWith_15 fg_X11_32 rfl rfl rfl (ok_X rfl) ?_
  refine rl_i1 dX11_slipsWith_18 ?_
  refine ar_putI dX11_slipsWith_19 fg_X11_164 rfl rfl (ok_X rfl) rfl rfl ?_
  replace H := wp_l H
  generalize am_u a1 (.inl 1) 2 0 x1 = h1 at H ⊢
  refine rl_a0 dX11_slipsWith_22 ?_
  refine rg_R (.inr 0) 0 dX11_slipsWith_23 fg_X11_12 rfl rfl rfl (ok_X rfl) ?_
  refine rl_a0 dX11_slipsWith_26 ?_
  refine rg_R (.inl 1) 2 dX11_slipsWith_27 fg_X11_32 rfl rfl rfl (ok_X rfl) ?_
  obtain ⟨a2, e2, H⟩ := wp_b H
  refine rc_V1i dX11_slipsWith_30 ml_X11_477 mc_X5_slipsBy (c_X5_slipsBy (by decide) e2) rfl rfl rfl (ok_P (by decide) rfl) rfl rfl rfl ?_
  replace H := wp_s H
  exact ar_iret dX11_slipsWith_33 rfl rfl H
noncomputable def f_X11_slipsIf  (h : am_H) : Option (Int32 × am_H) :=
  (f_X11_slipsWith (h.1 (.inr 0) 16 0) h).bind (fun a1 => some ((a1.1, a1.2)))
theorem c_X11_slipsIf  {h : am_H} {a : Int32 × am_H} (e : f_X11_slipsIf h = some a) : am_Mi yX11_slipsIf cX11_slipsIf 1 (some .int) 5 113 [am_r (.inl 1) 0] h a.1 a.2 := by
  refine am_M.ofi (A := [some (am_r (.inl 1) 0)]) (by decide +kernel) rfl (ble rfl) (fun Q hQ => ?_)
  have H : wp (f_X11_slipsIf h) (fun a => Q (some (am_i a.1)) a.2) := ⟨_, e, hQ⟩
  unfold f_X11_slipsIf at H
  refine rl_a0 dX11_slipsIf_0 ?_
  refine rl_a0 dX11_slipsIf_1 ?_
  refine rg_R (.inr 0) 0 dX11_slipsIf_2 fg_X11_12 rfl rfl rfl (ok_X rfl) ?_
  refine rg_R (.inr 0) 16 dX11_slipsIf_5 fg_X11_161 rfl rfl rfl (ok_P (by decide) rfl) ?_
  refine ar_getI dX11_slipsIf_8 fg_X11_164 rfl rfl (ok_P (by decide) rfl) ?_
  obtain ⟨a1, e1, H⟩ := wp_b H
  refine rc_V1i dX11_slipsIf_11 ml_X11_360 mc_X11_slipsWith (c_X11_slipsWith e1) rfl rfl rfl (ok_X rfl) rfl rfl rfl ?_
  replace H := wp_s H
  exact ar_iret dX11_slipsIf_14 rfl rfl H
noncomputable def s_X11_leastSharp  : am_S am_H → Option (am_S am_H ⊕ (Int32 × am_H)) := fun s => match s with
  | (2, [x1], [], [], h) => if (iI (99)) < x1 then (some (.inr (((iI (-1)), h)))) else ((f_X11_slipsWith x1 h).bind (fun a1 => if a1.1 = 0 then (some (.inr ((x1, a1.2)))) else (some (.inl (2, [(x1 + 1)], [], [], a1.2)))))
  | _ => none
noncomputable def f_X11_leastSharp_2  (x1 : Int32) (h : am_H) : Option (Int32 × am_H) := lp (s_X11_leastSharp) (2, [x1], [], [], h)
theorem e_X11_leastSharp_2  (x1 : Int32) (h : am_H) : f_X11_leastSharp_2 x1 h = (if (iI (99)) < x1 then (some (((iI (-1)), h))) else ((f_X11_slipsWith x1 h).bind (fun a1 => if a1.1 = 0 then (some ((x1, a1.2))) else (f_X11_leastSharp_2 (x1 + 1) a1.2)))) := by
  show lp _ _ = _
  rw [lp_eq, s_X11_leastSharp]
  simp only [lpk_i, lpk_b, lpk_l, lpk_n, lpk_j, lpk_r] <;> rfl
noncomputable def f_X11_leastSharp  (h : am_H) : Option (Int32 × am_H) :=
  f_X11_leastSharp_2 (iI (1)) h
theorem c_X11_leastSharp_L  {Q : Option am_v → am_H → Prop} : ∀ s, wp (lp (s_X11_leastSharp) s) (fun a => Q (some (am_i a.1)) a.2) → ((∀ x1 h, s = (2, [x1], [], [], h) → am_V RX11 cX11_leastSharp 2 (some .int) 5 113 0 0 none (am_Tm cX11_leastSharp (some .int) Q) 0 0 2 [some (am_r (.inl 1) 0), some (am_i x1)] [] h)) := by
  refine lp_ind _ _ (fun s H => fun x1 h e => ?_)
  · subst e
    rw [s_X11_leastSharp] at H
    refine rl_i1 dX11_leastSharp_2 ?_
    refine ar_bipush (iI (99)) dX11_leastSharp_3 rfl ?_
    refine ar_ic_gt 24 dX11_leastSharp_5 (by decide) (fun c1 => ?_) (fun c1 => ?_)
    · replace H := wp_t c1 H
      refine ar_iconst (iI (-1)) dX11_leastSharp_24 rfl ?_
      replace H := lp_re H
      exact ar_iret dX11_leastSharp_25 rfl rfl H
    · replace H := wp_f c1 H
      refine rl_a0 dX11_leastSharp_8 ?_
      refine rl_i1 dX11_leastSharp_9 ?_
      obtain ⟨a1, e1, H⟩ := wp_b H
      refine rc_V1i dX11_leastSharp_10 ml_X11_360 mc_X11_slipsWith (c_X11_slipsWith e1) rfl rfl rfl (ok_X rfl) rfl rfl rfl ?_
      refine ar_if_ne 18 dX11_leastSharp_13 (by decide) (fun c2 => ?_) (fun c2 => ?_)
      · replace H := wp_f c2 H
        refine rn_1_1 dX11_leastSharp_18 rfl trivial ?_
        refine ar_goto 2 dX11_leastSharp_21 (by decide) ?_
        exact am_V.wk (am_s (am_s am_0)) ((lp_in H) _ _ rfl)
      · replace H := wp_t c2 H
        refine rl_i1 dX11_leastSharp_16 ?_
        replace H := lp_re H
        exact ar_iret dX11_leastSharp_17 rfl rfl H
theorem c_X11_leastSharp  {h : am_H} {a : Int32 × am_H} (e : f_X11_leastSharp h = some a) : am_Mi yX11_leastSharp cX11_leastSharp 2 (some .int) 5 113 [am_r (.inl 1) 0] h a.1 a.2 := by
  refine am_M.ofi (A := [some (am_r (.inl 1) 0), none]) (by decide +kernel) rfl (ble rfl) (fun Q hQ => ?_)
  have H : wp (f_X11_leastSharp h) (fun a => Q (some (am_i a.1)) a.2) := ⟨_, e, hQ⟩
  unfold f_X11_leastSharp at H
  refine ar_iconst (iI (1)) dX11_leastSharp_0 rfl ?_
  refine rs_i1 dX11_leastSharp_1 rfl trivial ?_
  exact am_V.wk (am_s (am_s am_0)) ((c_X11_leastSharp_L  _ H) _ _ rfl)
noncomputable def s_X11_keepForUndo  : am_S am_H → Option (am_S am_H ⊕ am_H) := fun s => match s with
  | (18, [x2], [], [p1], h) => if p1 < 10 then (if (iI (6)) ≤ x2 then (if ib (iI (5)) 6 then (am_lt (am_up h (((iI (5))).toNatClampNeg) p1) (fun h1 => am_lt (am_u h1 (.inl 1) 0 6 (iI (5))) (fun h2 => some (.inl (56, [], [], [], h2))))) else none) else (if ib x2 6 then (if (h.2.2 x2.toNatClampNeg) < 10 then (if ib (x2 - (iI (1))) 6 then (am_lt (am_up h (((x2 - (iI (1)))).toNatClampNeg) (h.2.2 x2.toNatClampNeg)) (fun h1 => some (.inl (18, [(x2 + 1)], [], [p1], h1)))) else none) else none) else none)) else none
  | (56, [], [], [], h) => if ib (h.1 (.inl 1) 0 6) 6 then (if (h.2.2 (((h.1 (.inl 1) 0 6)).toNatClampNeg)) < 10 then ((f_X5_copyFrom (h.2.2 (((h.1 (.inl 1) 0 6)).toNatClampNeg)) 0 h).bind (fun a1 => am_lt (am_u a1 (.inl 1) 0 6 ((a1.1 (.inl 1) 0 6) + (iI (1)))) (fun h1 => some (.inr (h1))))) else none) else none
  | _ => none
noncomputable def f_X11_keepForUndo_18  (p1 : Nat) (x2 : Int32) (h : am_H) : Option am_H := lp (s_X11_keepForUndo) (18, [x2], [], [p1], h)
noncomputable def f_X11_keepForUndo_56   (h : am_H) : Option am_H := lp (s_X11_keepForUndo) (56, [], [], [], h)
theorem e_X11_keepForUndo_18  (p1 : Nat) (x2 : Int32) (h : am_H) : f_X11_keepForUndo_18 p1 x2 h = (if p1 < 10 then (if (iI (6)) ≤ x2 then (if ib (iI (5)) 6 then (am_lt (am_up h (((iI (5))).toNatClampNeg) p1) (fun h1 => am_lt (am_u h1 (.inl 1) 0 6 (iI (5))) (fun h2 => f_X11_keepForUndo_56 h2))) else none) else (if ib x2 6 then (if (h.2.2 x2.toNatClampNeg) < 10 then (if ib (x2 - (iI (1))) 6 then (am_lt (am_up h (((x2 - (iI (1)))).toNatClampNeg) (h.2.2 x2.toNatClampNeg)) (fun h1 => f_X11_keepForUndo_18 p1 (x2 + 1) h1)) else none) else none) else none)) else none) := by
  show lp _ _ = _
  rw [lp_eq, s_X11_keepForUndo]
  simp only [lpk_i, lpk_b, lpk_l, lpk_n, lpk_j, lpk_r] <;> rfl
theorem e_X11_keepForUndo_56   (h : am_H) : f_X11_keepForUndo_56 h = (if ib (h.1 (.inl 1) 0 6) 6 then (if (h.2.2 (((h.1 (.inl 1) 0 6)).toNatClampNeg)) < 10 then ((f_X5_copyFrom (h.2.2 (((h.1 (.inl 1) 0 6)).toNatClampNeg)) 0 h).bind (fun a1 => am_lt (am_u a1 (.inl 1) 0 6 ((a1.1 (.inl 1) 0 6) + (iI (1)))) (fun h1 => some (h1)))) else none) else none) := by
  show lp _ _ = _
  rw [lp_eq, s_X11_keepForUndo]
  simp only [lpk_i, lpk_b, lpk_l, lpk_n, lpk_j, lpk_r] <;> rfl
noncomputable def f_X11_keepForUndo  (h : am_H) : Option am_H :=
  if (h.1 (.inl 1) 0 6) < (iI (6)) then (f_X11_keepForUndo_56 h) else (if ib (iI (0)) 6 then (if (h.2.2 (((iI (0))).toNatClampNeg)) < 10 then (f_X11_keepForUndo_18 (h.2.2 (((iI (0))).toNatClampNeg)) (iI (1)) h) else none) else none)
theorem c_X11_keepForUndo_L  {Q : Option am_v → am_H → Prop} : ∀ s, wp (lp (s_X11_keepForUndo) s) (fun a => Q none a) → ((∀ p1 x2 h, s = (18, [x2], [], [p1], h) → am_V RX11 cX11_keepForUndo 3 (none) 3 66 0 0 none (am_Tm cX11_keepForUndo (none) Q) 0 0 18 [some (am_r (.inl 1) 0), some (am_r (.inr p1) 0), some (am_i x2)] [] h) ∧ (∀ h, s = (56, [], [], [], h) → am_V RX11 cX11_keepForUndo 3 (none) 3 66 0 0 none (am_Tm cX11_keepForUndo (none) Q) 0 0 56 [some (am_r (.inl 1) 0), none, none] [] h)) := by
  refine lp_ind _ _ (fun s H => ⟨fun p1 x2 h e => ?_, fun h e => ?_⟩)
  · subst e
    rw [s_X11_keepForUndo] at H
    obtain ⟨hk_p1, H⟩ := wp_g H
    refine rl_i2 dX11_keepForUndo_18 ?_
    refine ar_bipush (iI (6)) dX11_keepForUndo_19 rfl ?_
    refine ar_ic_ge 44 dX11_keepForUndo_21 (by decide) (fun c1 => ?_) (fun c1 => ?_)
    · replace H := wp_t c1 H
      refine rl_a0 dX11_keepForUndo_44 ?_
      refine rg_R (.inl 1) 1 dX11_keepForUndo_45 fg_X11_25 rfl rfl rfl (ok_X rfl) ?_
      refine ar_iconst (iI (5)) dX11_keepForUndo_48 rfl ?_
      refine rl_a1 dX11_keepForUndo_49 ?_
      obtain ⟨b1, H⟩ := wp_g H
      refine ar_aast dX11_keepForUndo_50 (ok_P hk_p1 rfl) (ib_in b1) ?_
      replace H := wp_l H
      generalize am_up h (((iI (5))).toNatClampNeg) p1 = h1 at H ⊢
      refine rl_a0 dX11_keepForUndo_51 ?_
      refine ar_iconst (iI (5)) dX11_keepForUndo_52 rfl ?_
      refine ar_putI dX11_keepForUndo_53 fg_X11_105 rfl rfl (ok_X rfl) rfl rfl ?_
      replace H := wp_l H
      generalize am_u h1 (.inl 1) 0 6 (iI (5)) = h2 at H ⊢
      exact am_V.wk (am_s (am_n (am_n am_0))) ((lp_in H).2 _ rfl)
    · replace H := wp_f c1 H
      refine rl_a0 dX11_keepForUndo_24 ?_
      refine rg_R (.inl 1) 1 dX11_keepForUndo_25 fg_X11_25 rfl rfl rfl (ok_X rfl) ?_
      refine rl_i2 dX11_keepForUndo_28 ?_
      refine ar_iconst (iI (1)) dX11_keepForUndo_29 rfl ?_
      refine ar_isub dX11_keepForUndo_30 ?_
      refine rl_a0 dX11_keepForUndo_31 ?_
      refine rg_R (.inl 1) 1 dX11_keepForUndo_32 fg_X11_25 rfl rfl rfl (ok_X rfl) ?_
      refine rl_i2 dX11_keepForUndo_35 ?_
      obtain ⟨b1, H⟩ := wp_g H
      obtain ⟨b2, H⟩ := wp_g H
      refine ar_aald dX11_keepForUndo_36 (ib_in b1) ?_
      obtain ⟨b3, H⟩ := wp_g H
      refine ar_aast dX11_keepForUndo_37 (ok_P b2 rfl) (ib_in b3) ?_
      replace H := wp_l H
      generalize am_up h (((x2 - (iI (1)))).toNatClampNeg) (h.2.2 x2.toNatClampNeg) = h1 at H ⊢
      refine rn_1_2 dX11_keepForUndo_38 rfl trivial ?_
      refine ar_goto 18 dX11_keepForUndo_41 (by decide) ?_
      exact am_V.wk (am_s (am_s (am_s am_0))) ((lp_in H).1 _ _ _ rfl)
  · subst e
    rw [s_X11_keepForUndo] at H
    refine rl_a0 dX11_keepForUndo_56 ?_
    refine rg_R (.inl 1) 1 dX11_keepForUndo_57 fg_X11_25 rfl rfl rfl (ok_X rfl) ?_
    refine rl_a0 dX11_keepForUndo_60 ?_
    refine ar_getI dX11_keepForUndo_61 fg_X11_105 rfl rfl (ok_X rfl) ?_
    obtain ⟨b1, H⟩ := wp_g H
    obtain ⟨b2, H⟩ := wp_g H
    refine ar_aald dX11_keepForUndo_64 (ib_in b1) ?_
    refine rl_a0 dX11_keepForUndo_65 ?_
    refine rg_R (.inr 0) 0 dX11_keepForUndo_66 fg_X11_12 rfl rfl rfl (ok_X rfl) ?_
    obtain ⟨a1, e1, H⟩ := wp_b H
    refine rc_V1v dX11_keepForUndo_69 ml_X11_101 mc_X5_copyFrom (c_X5_copyFrom b2 (by decide) e1) rfl rfl rfl (ok_P b2 rfl) rfl rfl rfl ?_
    refine rl_a0 dX11_keepForUndo_72 ?_
    refine ar_dup dX11_keepForUndo_73 trivial ?_
    refine ar_getI dX11_keepForUndo_74 fg_X11_105 rfl rfl (ok_X rfl) ?_
    refine ar_iconst (iI (1)) dX11_keepForUndo_77 rfl ?_
    refine ar_iadd dX11_keepForUndo_78 ?_
    refine ar_putI dX11_keepForUndo_79 fg_X11_105 rfl rfl (ok_X rfl) rfl rfl ?_
    replace H := wp_l H
    generalize am_u a1 (.inl 1) 0 6 ((a1.1 (.inl 1) 0 6) + (iI (1))) = h1 at H ⊢
    replace H := lp_re H
    exact ar_vret dX11_keepForUndo_82 rfl H
theorem c_X11_keepForUndo  {h : am_H} {a : am_H} (e : f_X11_keepForUndo h = some a) : am_Mv yX11_keepForUndo cX11_keepForUndo 3 (none) 3 66 [am_r (.inl 1) 0] h a := by
  refine am_M.ofv (A := [some (am_r (.inl 1) 0), none, none]) (by decide +kernel) rfl (ble rfl) (fun Q hQ => ?_)
  have H : wp (f_X11_keepForUndo h) (fun a => Q none a) := ⟨_, e, hQ⟩
  unfold f_X11_keepForUndo at H
  refine rl_a0 dX11_keepForUndo_0 ?_
  refine ar_getI dX11_keepForUndo_1 fg_X11_105 rfl rfl (ok_X rfl) ?_
  refine ar_bipush (iI (6)) dX11_keepForUndo_4 rfl ?_
  refine ar_ic_lt 56 dX11_keepForUndo_6 (by decide) (fun c1 => ?_) (fun c1 => ?_)
  · replace H := wp_t c1 H
    exact am_V.wk (am_s (am_n (am_n am_0))) ((c_X11_keepForUndo_L  _ H).2 _ rfl)
  · replace H := wp_f c1 H
    refine rl_a0 dX11_keepForUndo_9 ?_
    refine rg_R (.inl 1) 1 dX11_keepForUndo_10 fg_X11_25 rfl rfl rfl (ok_X rfl) ?_
    refine ar_iconst (iI (0)) dX11_keepForUndo_13 rfl ?_
    obtain ⟨b1, H⟩ := wp_g H
    obtain ⟨b2, H⟩ := wp_g H
    refine ar_aald dX11_keepForUndo_14 (ib_in b1) ?_
    refine rs_a1 dX11_keepForUndo_15 rfl trivial ?_
    refine ar_iconst (iI (1)) dX11_keepForUndo_16 rfl ?_
    refine rs_i2 dX11_keepForUndo_17 rfl trivial ?_
    exact am_V.wk (am_s (am_s (am_s am_0))) ((c_X11_keepForUndo_L  _ H).1 _ _ _ rfl)
noncomputable def f_X11_undo  (h : am_H) : Option (Int32 × am_H) :=
  if 0 < (h.1 (.inl 1) 0 6) then (am_lt (am_u h (.inl 1) 0 6 ((h.1 (.inl 1) 0 6) - (iI (1)))) (fun h1 => if ib (h1.1 (.inl 1) 0 6) 6 then (if (h1.2.2 (((h1.1 (.inl 1) 0 6)).toNatClampNeg)) < 10 then ((f_X5_copyFrom 0 (h1.2.2 (((h1.1 (.inl 1) 0 6)).toNatClampNeg)) h1).bind (fun a1 => some (((a1.1 (.inl 1) 0 6), a1)))) else none) else none)) else (some (((iI (-1)), h)))
theorem c_X11_undo  {h : am_H} {a : Int32 × am_H} (e : f_X11_undo h = some a) : am_Mi yX11_undo cX11_undo 1 (some .int) 3 66 [am_r (.inl 1) 0] h a.1 a.2 := by
  refine am_M.ofi (A := [some (am_r (.inl 1) 0)]) (by decide +kernel) rfl (ble rfl) (fun Q hQ => ?_)
  have H : wp (f_X11_undo h) (fun a => Q (some (am_i a.1)) a.2) := ⟨_, e, hQ⟩
  unfold f_X11_undo at H
  refine rl_a0 dX11_undo_0 ?_
  refine ar_getI dX11_undo_1 fg_X11_105 rfl rfl (ok_X rfl) ?_
  refine ar_if_gt 9 dX11_undo_4 (by decide) (fun c1 => ?_) (fun c1 => ?_)
  · replace H := wp_t c1 H
    refine rl_a0 dX11_undo_9 ?_
    refine ar_dup dX11_undo_10 trivial ?_
    refine ar_getI dX11_undo_11 fg_X11_105 rfl rfl (ok_X rfl) ?_
    refine ar_iconst (iI (1)) dX11_undo_14 rfl ?_
    refine ar_isub dX11_undo_15 ?_
    refine ar_putI dX11_undo_16 fg_X11_105 rfl rfl (ok_X rfl) rfl rfl ?_
    replace H := wp_l H
    generalize am_u h (.inl 1) 0 6 ((h.1 (.inl 1) 0 6) - (iI (1))) = h1 at H ⊢
    refine rl_a0 dX11_undo_19 ?_
    refine rg_R (.inr 0) 0 dX11_undo_20 fg_X11_12 rfl rfl rfl (ok_X rfl) ?_
    refine rl_a0 dX11_undo_23 ?_
    refine rg_R (.inl 1) 1 dX11_undo_24 fg_X11_25 rfl rfl rfl (ok_X rfl) ?_
    refine rl_a0 dX11_undo_27 ?_
    refine ar_getI dX11_undo_28 fg_X11_105 rfl rfl (ok_X rfl) ?_
    obtain ⟨b1, H⟩ := wp_g H
    obtain ⟨b2, H⟩ := wp_g H
    refine ar_aald dX11_undo_31 (ib_in b1) ?_
    obtain ⟨a1, e1, H⟩ := wp_b H
    refine rc_V1v dX11_undo_32 ml_X11_101 mc_X5_copyFrom (c_X5_copyFrom (by decide) b2 e1) rfl rfl rfl (ok_P (by decide) rfl) rfl rfl rfl ?_
    refine rl_a0 dX11_undo_35 ?_
    refine ar_getI dX11_undo_36 fg_X11_105 rfl rfl (ok_X rfl) ?_
    replace H := wp_s H
    exact ar_iret dX11_undo_39 rfl rfl H
  · replace H := wp_f c1 H
    refine ar_iconst (iI (-1)) dX11_undo_7 rfl ?_
    replace H := wp_s H
    exact ar_iret dX11_undo_8 rfl rfl H
