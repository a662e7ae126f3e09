noncomputable def f_L_feed (x1 x2 x3 x4 x5 : Int32) (h : am_H) : Option (Int32 × am_H) := lw_ret (f_X11_feed x1 x2 x3 x4 x5 h) (fun e => match e with | 0 => some (iI 1) | _ => none)
theorem mc_L_feed : am_cw yL_feed cL_feed 8 (some .int) [(0, 16, 19, 13)] 7 := ⟨by decide +kernel, by decide +kernel, by decide +kernel, by decide, by decide, by decide +kernel⟩
theorem c_L_feed {x1 x2 x3 x4 x5 : Int32} {h : am_H} {a : Int32 × am_H} (e : f_L_feed x1 x2 x3 x4 x5 h = some a) : am_MW yL_feed cL_feed 8 (some .int) [(0, 16, 19, 13)] 9 156 [am_r (.inl 1) 0, am_i x1, am_i x2, am_i x3, am_i x4, am_i x5, am_r (.inl 1) 18] h (fun r h9 => r = some (am_i a.1) ∧ h9 = a.2) := by
  refine am_MW.of (A := [some (am_r (.inl 1) 0), some (am_i x1), some (am_i x2), some (am_i x3), some (am_i x4), some (am_i x5), some (am_r (.inl 1) 18), none]) (by decide +kernel) rfl (ble rfl) ?_
  obtain ⟨q, e1, H⟩ := lw_ret_v e
  refine rl_a6 dL_feed_0 ?_
  refine ar_iconst (iI (0)) dL_feed_2 rfl ?_
  refine rl_a0 dL_feed_3 ?_
  refine rl_i1 dL_feed_4 ?_
  refine rl_i2 dL_feed_5 ?_
  refine rl_i3 dL_feed_6 ?_
  refine rl_i4 dL_feed_7 ?_
  refine rl_i5 dL_feed_9 ?_
  refine ar_callX (As := [am_i x1, am_i x2, am_i x3, am_i x4, am_i x5]) dL_feed_11 ml_L_7 mc_X11_feed (c_X11_feed e1) rfl rfl rfl (ok_X rfl) rfl (ble rfl) (ble rfl) (ble rfl) (ble rfl) (ble rfl) (fun r h9 hq => ?_) (fun ex h9 he hq => ?_)
  · obtain ⟨v, hv, rfl, rfl⟩ := hq
    rcases H with ⟨v2, hv2, rfl⟩ | ⟨_, _, hv2, _⟩
    · obtain rfl : v = v2 := Sum.inl.inj (hv.symm.trans hv2)
      refine ar_i2l dL_feed_14 ?_
      refine ar_last (n := 1) dL_feed_15 rfl (ok_X rfl) (ib_in (by decide)) ?_
      refine ar_goto 23 dL_feed_16 (by decide) ?_
      refine ar_iconst (iI 0) dL_feed_23 rfl ?_
      exact ar_iret dL_feed_24 rfl rfl ⟨rfl, rfl⟩
    · exact absurd (hv.symm.trans hv2) (fun z => by cases z)
  · obtain ⟨hx, rfl⟩ := hq
    rcases H with ⟨v2, hv2, _⟩ | ⟨e2, k2, hv2, hk, rfl⟩
    · exact absurd (hx.symm.trans hv2) (fun z => by cases z)
    · obtain rfl : ex = e2 := Sum.inr.inj (hx.symm.trans hv2)
      match ex, he, hk with
      | 0, _, hk =>
        cases hk
        refine ⟨19, ⟨[], (0, 16, 19, 13), [], rfl, (fun z hz => by cases hz), by decide, by decide, rfl, by decide, am_lk0, am_dc 0⟩, fun q9 => ?_⟩
        refine ar_astoreV (i := 7) dL_feed_19 (ble rfl) (ble rfl) trivial rfl ?_
        refine ar_iconst (iI 1) dL_feed_21 rfl ?_
        exact ar_iret dL_feed_22 rfl rfl ⟨rfl, rfl⟩
      | 1, _, hk => cases hk
      | 2, _, hk => cases hk
      | n + 3, he, _ => exact absurd he (by omega)
noncomputable def f_L_truncate (x1 : Int32) (h : am_H) : Option (Int32 × am_H) := lw_ret (f_X11_truncate x1 h) (fun e => match e with | 1 => some (iI 1) | _ => none)
theorem mc_L_truncate : am_cw yL_truncate cL_truncate 4 (some .int) [(0, 9, 12, 19)] 3 := ⟨by decide +kernel, by decide +kernel, by decide +kernel, by decide, by decide, by decide +kernel⟩
theorem c_L_truncate {x1 : Int32} {h : am_H} {a : Int32 × am_H} (e : f_L_truncate x1 h = some a) : am_MW yL_truncate cL_truncate 4 (some .int) [(0, 9, 12, 19)] 9 152 [am_r (.inl 1) 0, am_i x1, am_r (.inl 1) 18] h (fun r h9 => r = some (am_i a.1) ∧ h9 = a.2) := by
  refine am_MW.of (A := [some (am_r (.inl 1) 0), some (am_i x1), some (am_r (.inl 1) 18), none]) (by decide +kernel) rfl (ble rfl) ?_
  obtain ⟨q, e1, H⟩ := lw_ret_v e
  refine rl_a2 dL_truncate_0 ?_
  refine ar_iconst (iI (0)) dL_truncate_1 rfl ?_
  refine rl_a0 dL_truncate_2 ?_
  refine rl_i1 dL_truncate_3 ?_
  refine ar_callX (As := [am_i x1]) dL_truncate_4 ml_L_15 mc_X11_truncate (c_X11_truncate e1) rfl rfl rfl (ok_X rfl) rfl (ble rfl) (ble rfl) (ble rfl) (ble rfl) (ble rfl) (fun r h9 hq => ?_) (fun ex h9 he hq => ?_)
  · obtain ⟨v, hv, rfl, rfl⟩ := hq
    rcases H with ⟨v2, hv2, rfl⟩ | ⟨_, _, hv2, _⟩
    · obtain rfl : v = v2 := Sum.inl.inj (hv.symm.trans hv2)
      refine ar_i2l dL_truncate_7 ?_
      refine ar_last (n := 1) dL_truncate_8 rfl (ok_X rfl) (ib_in (by decide)) ?_
      refine ar_goto 15 dL_truncate_9 (by decide) ?_
      refine ar_iconst (iI 0) dL_truncate_15 rfl ?_
      exact ar_iret dL_truncate_16 rfl rfl ⟨rfl, rfl⟩
    · exact absurd (hv.symm.trans hv2) (fun z => by cases z)
  · obtain ⟨hx, rfl⟩ := hq
    rcases H with ⟨v2, hv2, _⟩ | ⟨e2, k2, hv2, hk, rfl⟩
    · exact absurd (hx.symm.trans hv2) (fun z => by cases z)
    · obtain rfl : ex = e2 := Sum.inr.inj (hx.symm.trans hv2)
      match ex, he, hk with
      | 0, _, hk => cases hk
      | 1, _, hk =>
        cases hk
        refine ⟨12, ⟨[], (0, 9, 12, 19), [], rfl, (fun z hz => by cases hz), by decide, by decide, rfl, by decide, am_lk1, am_dc 1⟩, fun q9 => ?_⟩
        refine ar_astoreV_n (i := 3) dL_truncate_12 rfl (ble rfl) (ble rfl) trivial rfl ?_
        refine ar_iconst (iI 1) dL_truncate_13 rfl ?_
        exact ar_iret dL_truncate_14 rfl rfl ⟨rfl, rfl⟩
      | 2, _, hk => cases hk
      | n + 3, he, _ => exact absurd he (by omega)
noncomputable def f_L_readText (h : am_H) : Option (Int32 × am_H) := lw_ret (f_X11_readText h) (fun e => match e with | 1 => some (iI 1) | _ => none)
theorem mc_L_readText : am_cw yL_readText cL_readText 3 (some .int) [(0, 8, 11, 19)] 2 := ⟨by decide +kernel, by decide +kernel, by decide +kernel, by decide, by decide, by decide +kernel⟩
theorem c_L_readText {h : am_H} {a : Int32 × am_H} (e : f_L_readText h = some a) : am_MW yL_readText cL_readText 3 (some .int) [(0, 8, 11, 19)] 10 221 [am_r (.inl 1) 0, am_r (.inl 1) 18] h (fun r h9 => r = some (am_i a.1) ∧ h9 = a.2) := by
  refine am_MW.of (A := [some (am_r (.inl 1) 0), some (am_r (.inl 1) 18), none]) (by decide +kernel) rfl (ble rfl) ?_
  obtain ⟨q, e1, H⟩ := lw_ret_v e
  refine rl_a1 dL_readText_0 ?_
  refine ar_iconst (iI (0)) dL_readText_1 rfl ?_
  refine rl_a0 dL_readText_2 ?_
  refine ar_callX (As := []) dL_readText_3 ml_L_21 mc_X11_readText (c_X11_readText e1) rfl rfl rfl (ok_X rfl) rfl (ble rfl) (ble rfl) (ble rfl) (ble rfl) (ble rfl) (fun r h9 hq => ?_) (fun ex h9 he hq => ?_)
  · obtain ⟨v, hv, rfl, rfl⟩ := hq
    rcases H with ⟨v2, hv2, rfl⟩ | ⟨_, _, hv2, _⟩
    · obtain rfl : v = v2 := Sum.inl.inj (hv.symm.trans hv2)
      refine ar_i2l dL_readText_6 ?_
      refine ar_last (n := 1) dL_readText_7 rfl (ok_X rfl) (ib_in (by decide)) ?_
      refine ar_goto 14 dL_readText_8 (by decide) ?_
      refine ar_iconst (iI 0) dL_readText_14 rfl ?_
      exact ar_iret dL_readText_15 rfl rfl ⟨rfl, rfl⟩
    · exact absurd (hv.symm.trans hv2) (fun z => by cases z)
  · obtain ⟨hx, rfl⟩ := hq
    rcases H with ⟨v2, hv2, _⟩ | ⟨e2, k2, hv2, hk, rfl⟩
    · exact absurd (hx.symm.trans hv2) (fun z => by cases z)
    · obtain rfl : ex = e2 := Sum.inr.inj (hx.symm.trans hv2)
      match ex, he, hk with
      | 0, _, hk => cases hk
      | 1, _, hk =>
        cases hk
        refine ⟨11, ⟨[], (0, 8, 11, 19), [], rfl, (fun z hz => by cases hz), by decide, by decide, rfl, by decide, am_lk1, am_dc 1⟩, fun q9 => ?_⟩
        refine ar_astoreV_n (i := 2) dL_readText_11 rfl (ble rfl) (ble rfl) trivial rfl ?_
        refine ar_iconst (iI 1) dL_readText_12 rfl ?_
        exact ar_iret dL_readText_13 rfl rfl ⟨rfl, rfl⟩
      | 2, _, hk => cases hk
      | n + 3, he, _ => exact absurd he (by omega)
noncomputable def f_L_runScript (h : am_H) : Option (Int32 × am_H) := lw_ret (f_X11_runScript h) (fun e => match e with | 1 => some (iI 1) | _ => none)
theorem mc_L_runScript : am_cw yL_runScript cL_runScript 3 (some .int) [(0, 8, 11, 19)] 2 := ⟨by decide +kernel, by decide +kernel, by decide +kernel, by decide, by decide, by decide +kernel⟩
theorem c_L_runScript {h : am_H} {a : Int32 × am_H} (e : f_L_runScript h = some a) : am_MW yL_runScript cL_runScript 3 (some .int) [(0, 8, 11, 19)] 9 193 [am_r (.inl 1) 0, am_r (.inl 1) 18] h (fun r h9 => r = some (am_i a.1) ∧ h9 = a.2) := by
  refine am_MW.of (A := [some (am_r (.inl 1) 0), some (am_r (.inl 1) 18), none]) (by decide +kernel) rfl (ble rfl) ?_
  obtain ⟨q, e1, H⟩ := lw_ret_v e
  refine rl_a1 dL_runScript_0 ?_
  refine ar_iconst (iI (0)) dL_runScript_1 rfl ?_
  refine rl_a0 dL_runScript_2 ?_
  refine ar_callX (As := []) dL_runScript_3 ml_L_25 mc_X11_runScript (c_X11_runScript e1) rfl rfl rfl (ok_X rfl) rfl (ble rfl) (ble rfl) (ble rfl) (ble rfl) (ble rfl) (fun r h9 hq => ?_) (fun ex h9 he hq => ?_)
  · obtain ⟨v, hv, rfl, rfl⟩ := hq
    rcases H with ⟨v2, hv2, rfl⟩ | ⟨_, _, hv2, _⟩
    · obtain rfl : v = v2 := Sum.inl.inj (hv.symm.trans hv2)
      refine ar_i2l dL_runScript_6 ?_
      refine ar_last (n := 1) dL_runScript_7 rfl (ok_X rfl) (ib_in (by decide)) ?_
      refine ar_goto 14 dL_runScript_8 (by decide) ?_
      refine ar_iconst (iI 0) dL_runScript_14 rfl ?_
      exact ar_iret dL_runScript_15 rfl rfl ⟨rfl, rfl⟩
    · exact absurd (hv.symm.trans hv2) (fun z => by cases z)
  · obtain ⟨hx, rfl⟩ := hq
    rcases H with ⟨v2, hv2, _⟩ | ⟨e2, k2, hv2, hk, rfl⟩
    · exact absurd (hx.symm.trans hv2) (fun z => by cases z)
    · obtain rfl : ex = e2 := Sum.inr.inj (hx.symm.trans hv2)
      match ex, he, hk with
      | 0, _, hk => cases hk
      | 1, _, hk =>
        cases hk
        refine ⟨11, ⟨[], (0, 8, 11, 19), [], rfl, (fun z hz => by cases hz), by decide, by decide, rfl, by decide, am_lk1, am_dc 1⟩, fun q9 => ?_⟩
        refine ar_astoreV_n (i := 2) dL_runScript_11 rfl (ble rfl) (ble rfl) trivial rfl ?_
        refine ar_iconst (iI 1) dL_runScript_12 rfl ?_
        exact ar_iret dL_runScript_13 rfl rfl ⟨rfl, rfl⟩
      | 2, _, hk => cases hk
      | n + 3, he, _ => exact absurd he (by omega)
noncomputable def f_L_setting (x1 : Int32) (h : am_H) : Option (Int32 × am_H) := lw_ret (f_X11_setting x1 h) (fun e => match e with | 1 => some (iI 1) | _ => none)
theorem mc_L_setting : am_cw yL_setting cL_setting 4 (some .int) [(0, 9, 12, 19)] 3 := ⟨by decide +kernel, by decide +kernel, by decide +kernel, by decide, by decide, by decide +kernel⟩
theorem c_L_setting {x1 : Int32} {h : am_H} {a : Int32 × am_H} (e : f_L_setting x1 h = some a) : am_MW yL_setting cL_setting 4 (some .int) [(0, 9, 12, 19)] 9 152 [am_r (.inl 1) 0, am_i x1, am_r (.inl 1) 18] h (fun r h9 => r = some (am_i a.1) ∧ h9 = a.2) := by
  refine am_MW.of (A := [some (am_r (.inl 1) 0), some (am_i x1), some (am_r (.inl 1) 18), none]) (by decide +kernel) rfl (ble rfl) ?_
  obtain ⟨q, e1, H⟩ := lw_ret_v e
  refine rl_a2 dL_setting_0 ?_
  refine ar_iconst (iI (0)) dL_setting_1 rfl ?_
  refine rl_a0 dL_setting_2 ?_
  refine rl_i1 dL_setting_3 ?_
  refine ar_callX (As := [am_i x1]) dL_setting_4 ml_L_28 mc_X11_setting (c_X11_setting e1) rfl rfl rfl (ok_X rfl) rfl (ble rfl) (ble rfl) (ble rfl) (ble rfl) (ble rfl) (fun r h9 hq => ?_) (fun ex h9 he hq => ?_)
  · obtain ⟨v, hv, rfl, rfl⟩ := hq
    rcases H with ⟨v2, hv2, rfl⟩ | ⟨_, _, hv2, _⟩
    · obtain rfl : v = v2 := Sum.inl.inj (hv.symm.trans hv2)
      refine ar_i2l dL_setting_7 ?_
      refine ar_last (n := 1) dL_setting_8 rfl (ok_X rfl) (ib_in (by decide)) ?_
      refine ar_goto 15 dL_setting_9 (by decide) ?_
      refine ar_iconst (iI 0) dL_setting_15 rfl ?_
      exact ar_iret dL_setting_16 rfl rfl ⟨rfl, rfl⟩
    · exact absurd (hv.symm.trans hv2) (fun z => by cases z)
  · obtain ⟨hx, rfl⟩ := hq
    rcases H with ⟨v2, hv2, _⟩ | ⟨e2, k2, hv2, hk, rfl⟩
    · exact absurd (hx.symm.trans hv2) (fun z => by cases z)
    · obtain rfl : ex = e2 := Sum.inr.inj (hx.symm.trans hv2)
      match ex, he, hk with
      | 0, _, hk => cases hk
      | 1, _, hk =>
        cases hk
        refine ⟨12, ⟨[], (0, 9, 12, 19), [], rfl, (fun z hz => by cases hz), by decide, by decide, rfl, by decide, am_lk1, am_dc 1⟩, fun q9 => ?_⟩
        refine ar_astoreV_n (i := 3) dL_setting_12 rfl (ble rfl) (ble rfl) trivial rfl ?_
        refine ar_iconst (iI 1) dL_setting_13 rfl ?_
        exact ar_iret dL_setting_14 rfl rfl ⟨rfl, rfl⟩
      | 2, _, hk => cases hk
      | n + 3, he, _ => exact absurd he (by omega)
noncomputable def f_L_arc (x1 x2 : Int32) (h : am_H) : Option (Int32 × am_H) := lw_ret ((f_X11_arc x1 x2 h).map (fun a => (a, h))) (fun e => match e with | 1 => some (iI 2) | 2 => some (iI 1) | _ => none)
theorem mc_L_arc : am_cw yL_arc cL_arc 5 (some .int) [(0, 10, 13, 35), (0, 10, 17, 19)] 4 := ⟨by decide +kernel, by decide +kernel, by decide +kernel, by decide, by decide, by decide +kernel⟩
theorem c_L_arc {x1 x2 : Int32} {h : am_H} {a : Int32 × am_H} (e : f_L_arc x1 x2 h = some a) : am_MW yL_arc cL_arc 5 (some .int) [(0, 10, 13, 35), (0, 10, 17, 19)] 9 153 [am_r (.inl 1) 0, am_i x1, am_i x2, am_r (.inl 1) 18] h (fun r h9 => r = some (am_i a.1) ∧ h9 = a.2) := by
  refine am_MW.of (A := [some (am_r (.inl 1) 0), some (am_i x1), some (am_i x2), some (am_r (.inl 1) 18), none]) (by decide +kernel) rfl (ble rfl) ?_
  obtain ⟨q, e1, H⟩ := lw_ret_v e
  obtain ⟨q0, e0, rfl⟩ := Option.map_eq_some_iff.mp e1
  refine rl_a3 dL_arc_0 ?_
  refine ar_iconst (iI (0)) dL_arc_1 rfl ?_
  refine rl_a0 dL_arc_2 ?_
  refine rl_i1 dL_arc_3 ?_
  refine rl_i2 dL_arc_4 ?_
  refine ar_callX (As := [am_i x1, am_i x2]) dL_arc_5 ml_L_31 mc_X11_arc (c_X11_arc e0) rfl rfl rfl (ok_X rfl) rfl (ble rfl) (ble rfl) (ble rfl) (ble rfl) (ble rfl) (fun r h9 hq => ?_) (fun ex h9 he hq => ?_)
  · obtain ⟨v, hv, rfl, rfl⟩ := hq
    rcases H with ⟨v2, hv2, rfl⟩ | ⟨_, _, hv2, _⟩
    · obtain rfl : v = v2 := Sum.inl.inj (hv.symm.trans hv2)
      refine ar_i2l dL_arc_8 ?_
      refine ar_last (n := 1) dL_arc_9 rfl (ok_X rfl) (ib_in (by decide)) ?_
      refine ar_goto 21 dL_arc_10 (by decide) ?_
      refine ar_iconst (iI 0) dL_arc_21 rfl ?_
      exact ar_iret dL_arc_22 rfl rfl ⟨rfl, rfl⟩
    · exact absurd (hv.symm.trans hv2) (fun z => by cases z)
  · obtain ⟨hx, rfl⟩ := hq
    rcases H with ⟨v2, hv2, _⟩ | ⟨e2, k2, hv2, hk, rfl⟩
    · exact absurd (hx.symm.trans hv2) (fun z => by cases z)
    · obtain rfl : ex = e2 := Sum.inr.inj (hx.symm.trans hv2)
      match ex, he, hk with
      | 0, _, hk => cases hk
      | 1, _, hk =>
        cases hk
        refine ⟨17, ⟨[(0, 10, 13, 35)], (0, 10, 17, 19), [], rfl, (fun z hz => by rcases List.mem_singleton.mp hz with rfl; exact ⟨by decide, 2, by decide, by decide, am_lk2⟩), by decide, by decide, rfl, by decide, am_lk1, am_dc 1⟩, fun q9 => ?_⟩
        refine ar_astoreV (i := 4) dL_arc_17 (ble rfl) (ble rfl) trivial rfl ?_
        refine ar_iconst (iI 2) dL_arc_19 rfl ?_
        exact ar_iret dL_arc_20 rfl rfl ⟨rfl, rfl⟩
      | 2, _, hk =>
        cases hk
        refine ⟨13, ⟨[], (0, 10, 13, 35), [(0, 10, 17, 19)], rfl, (fun z hz => by cases hz), by decide, by decide, rfl, by decide, am_lk2, am_dc 2⟩, fun q9 => ?_⟩
        refine ar_astoreV (i := 4) dL_arc_13 (ble rfl) (ble rfl) trivial rfl ?_
        refine ar_iconst (iI 1) dL_arc_15 rfl ?_
        exact ar_iret dL_arc_16 rfl rfl ⟨rfl, rfl⟩
      | n + 3, he, _ => exact absurd he (by omega)
noncomputable def f_L_letter (x1 x2 : Int32) (h : am_H) : Option (Int32 × am_H) := lw_ret (f_X11_letter x1 x2 h) (fun e => match e with | 1 => some (iI 2) | 2 => some (iI 1) | _ => none)
theorem mc_L_letter : am_cw yL_letter cL_letter 5 (some .int) [(0, 10, 13, 35), (0, 10, 17, 19)] 4 := ⟨by decide +kernel, by decide +kernel, by decide +kernel, by decide, by decide, by decide +kernel⟩
theorem c_L_letter {x1 x2 : Int32} {h : am_H} {a : Int32 × am_H} (e : f_L_letter x1 x2 h = some a) : am_MW yL_letter cL_letter 5 (some .int) [(0, 10, 13, 35), (0, 10, 17, 19)] 9 153 [am_r (.inl 1) 0, am_i x1, am_i x2, am_r (.inl 1) 18] h (fun r h9 => r = some (am_i a.1) ∧ h9 = a.2) := by
  refine am_MW.of (A := [some (am_r (.inl 1) 0), some (am_i x1), some (am_i x2), some (am_r (.inl 1) 18), none]) (by decide +kernel) rfl (ble rfl) ?_
  obtain ⟨q, e1, H⟩ := lw_ret_v e
  refine rl_a3 dL_letter_0 ?_
  refine ar_iconst (iI (0)) dL_letter_1 rfl ?_
  refine rl_a0 dL_letter_2 ?_
  refine rl_i1 dL_letter_3 ?_
  refine rl_i2 dL_letter_4 ?_
  refine ar_callX (As := [am_i x1, am_i x2]) dL_letter_5 ml_L_37 mc_X11_letter (c_X11_letter e1) rfl rfl rfl (ok_X rfl) rfl (ble rfl) (ble rfl) (ble rfl) (ble rfl) (ble rfl) (fun r h9 hq => ?_) (fun ex h9 he hq => ?_)
  · obtain ⟨v, hv, rfl, rfl⟩ := hq
    rcases H with ⟨v2, hv2, rfl⟩ | ⟨_, _, hv2, _⟩
    · obtain rfl : v = v2 := Sum.inl.inj (hv.symm.trans hv2)
      refine ar_i2l dL_letter_8 ?_
      refine ar_last (n := 1) dL_letter_9 rfl (ok_X rfl) (ib_in (by decide)) ?_
      refine ar_goto 21 dL_letter_10 (by decide) ?_
      refine ar_iconst (iI 0) dL_letter_21 rfl ?_
      exact ar_iret dL_letter_22 rfl rfl ⟨rfl, rfl⟩
    · exact absurd (hv.symm.trans hv2) (fun z => by cases z)
  · obtain ⟨hx, rfl⟩ := hq
    rcases H with ⟨v2, hv2, _⟩ | ⟨e2, k2, hv2, hk, rfl⟩
    · exact absurd (hx.symm.trans hv2) (fun z => by cases z)
    · obtain rfl : ex = e2 := Sum.inr.inj (hx.symm.trans hv2)
      match ex, he, hk with
      | 0, _, hk => cases hk
      | 1, _, hk =>
        cases hk
        refine ⟨17, ⟨[(0, 10, 13, 35)], (0, 10, 17, 19), [], rfl, (fun z hz => by rcases List.mem_singleton.mp hz with rfl; exact ⟨by decide, 2, by decide, by decide, am_lk2⟩), by decide, by decide, rfl, by decide, am_lk1, am_dc 1⟩, fun q9 => ?_⟩
        refine ar_astoreV (i := 4) dL_letter_17 (ble rfl) (ble rfl) trivial rfl ?_
        refine ar_iconst (iI 2) dL_letter_19 rfl ?_
        exact ar_iret dL_letter_20 rfl rfl ⟨rfl, rfl⟩
      | 2, _, hk =>
        cases hk
        refine ⟨13, ⟨[], (0, 10, 13, 35), [(0, 10, 17, 19)], rfl, (fun z hz => by cases hz), by decide, by decide, rfl, by decide, am_lk2, am_dc 2⟩, fun q9 => ?_⟩
        refine ar_astoreV (i := 4) dL_letter_13 (ble rfl) (ble rfl) trivial rfl ?_
        refine ar_iconst (iI 1) dL_letter_15 rfl ?_
        exact ar_iret dL_letter_16 rfl rfl ⟨rfl, rfl⟩
      | n + 3, he, _ => exact absurd he (by omega)
noncomputable def f_L_scratch (x1 x2 : Int32) (h : am_H) : Option (Int32 × am_H) := lw_ret (f_X11_scratch x1 x2 h) (fun e => match e with | 1 => some (iI 2) | 2 => some (iI 1) | _ => none)
theorem mc_L_scratch : am_cw yL_scratch cL_scratch 5 (some .int) [(0, 10, 13, 35), (0, 10, 17, 19)] 4 := ⟨by decide +kernel, by decide +kernel, by decide +kernel, by decide, by decide, by decide +kernel⟩
theorem c_L_scratch {x1 x2 : Int32} {h : am_H} {a : Int32 × am_H} (e : f_L_scratch x1 x2 h = some a) : am_MW yL_scratch cL_scratch 5 (some .int) [(0, 10, 13, 35), (0, 10, 17, 19)] 9 153 [am_r (.inl 1) 0, am_i x1, am_i x2, am_r (.inl 1) 18] h (fun r h9 => r = some (am_i a.1) ∧ h9 = a.2) := by
  refine am_MW.of (A := [some (am_r (.inl 1) 0), some (am_i x1), some (am_i x2), some (am_r (.inl 1) 18), none]) (by decide +kernel) rfl (ble rfl) ?_
  obtain ⟨q, e1, H⟩ := lw_ret_v e
  refine rl_a3 dL_scratch_0 ?_
  refine ar_iconst (iI (0)) dL_scratch_1 rfl ?_
  refine rl_a0 dL_scratch_2 ?_
  refine rl_i1 dL_scratch_3 ?_
  refine rl_i2 dL_scratch_4 ?_
  refine ar_callX (As := [am_i x1, am_i x2]) dL_scratch_5 ml_L_40 mc_X11_scratch (c_X11_scratch e1) rfl rfl rfl (ok_X rfl) rfl (ble rfl) (ble rfl) (ble rfl) (ble rfl) (ble rfl) (fun r h9 hq => ?_) (fun ex h9 he hq => ?_)
  · obtain ⟨v, hv, rfl, rfl⟩ := hq
    rcases H with ⟨v2, hv2, rfl⟩ | ⟨_, _, hv2, _⟩
    · obtain rfl : v = v2 := Sum.inl.inj (hv.symm.trans hv2)
      refine ar_i2l dL_scratch_8 ?_
      refine ar_last (n := 1) dL_scratch_9 rfl (ok_X rfl) (ib_in (by decide)) ?_
      refine ar_goto 21 dL_scratch_10 (by decide) ?_
      refine ar_iconst (iI 0) dL_scratch_21 rfl ?_
      exact ar_iret dL_scratch_22 rfl rfl ⟨rfl, rfl⟩
    · exact absurd (hv.symm.trans hv2) (fun z => by cases z)
  · obtain ⟨hx, rfl⟩ := hq
    rcases H with ⟨v2, hv2, _⟩ | ⟨e2, k2, hv2, hk, rfl⟩
    · exact absurd (hx.symm.trans hv2) (fun z => by cases z)
    · obtain rfl : ex = e2 := Sum.inr.inj (hx.symm.trans hv2)
      match ex, he, hk with
      | 0, _, hk => cases hk
      | 1, _, hk =>
        cases hk
        refine ⟨17, ⟨[(0, 10, 13, 35)], (0, 10, 17, 19), [], rfl, (fun z hz => by rcases List.mem_singleton.mp hz with rfl; exact ⟨by decide, 2, by decide, by decide, am_lk2⟩), by decide, by decide, rfl, by decide, am_lk1, am_dc 1⟩, fun q9 => ?_⟩
        refine ar_astoreV (i := 4) dL_scratch_17 (ble rfl) (ble rfl) trivial rfl ?_
        refine ar_iconst (iI 2) dL_scratch_19 rfl ?_
        exact ar_iret dL_scratch_20 rfl rfl ⟨rfl, rfl⟩
      | 2, _, hk =>
        cases hk
        refine ⟨13, ⟨[], (0, 10, 13, 35), [(0, 10, 17, 19)], rfl, (fun z hz => by cases hz), by decide, by decide, rfl, by decide, am_lk2, am_dc 2⟩, fun q9 => ?_⟩
        refine ar_astoreV (i := 4) dL_scratch_13 (ble rfl) (ble rfl) trivial rfl ?_
        refine ar_iconst (iI 1) dL_scratch_15 rfl ?_
        exact ar_iret dL_scratch_16 rfl rfl ⟨rfl, rfl⟩
      | n + 3, he, _ => exact absurd he (by omega)
noncomputable def f_L_flourishLetter (x1 x2 : Int32) (h : am_H) : Option (Int32 × am_H) := lw_ret ((f_X11_flourishLetter x1 x2 h).map (fun a => (a, h))) (fun e => match e with | 2 => some (iI 1) | _ => none)
theorem mc_L_flourishLetter : am_cw yL_flourishLetter cL_flourishLetter 5 (some .int) [(0, 10, 13, 35)] 4 := ⟨by decide +kernel, by decide +kernel, by decide +kernel, by decide, by decide, by decide +kernel⟩
theorem c_L_flourishLetter {x1 x2 : Int32} {h : am_H} {a : Int32 × am_H} (e : f_L_flourishLetter x1 x2 h = some a) : am_MW yL_flourishLetter cL_flourishLetter 5 (some .int) [(0, 10, 13, 35)] 9 153 [am_r (.inl 1) 0, am_i x1, am_i x2, am_r (.inl 1) 18] h (fun r h9 => r = some (am_i a.1) ∧ h9 = a.2) := by
  refine am_MW.of (A := [some (am_r (.inl 1) 0), some (am_i x1), some (am_i x2), some (am_r (.inl 1) 18), none]) (by decide +kernel) rfl (ble rfl) ?_
  obtain ⟨q, e1, H⟩ := lw_ret_v e
  obtain ⟨q0, e0, rfl⟩ := Option.map_eq_some_iff.mp e1
  refine rl_a3 dL_flourishLetter_0 ?_
  refine ar_iconst (iI (0)) dL_flourishLetter_1 rfl ?_
  refine rl_a0 dL_flourishLetter_2 ?_
  refine rl_i1 dL_flourishLetter_3 ?_
  refine rl_i2 dL_flourishLetter_4 ?_
  refine ar_callX (As := [am_i x1, am_i x2]) dL_flourishLetter_5 ml_L_43 mc_X11_flourishLetter (c_X11_flourishLetter e0) rfl rfl rfl (ok_X rfl) rfl (ble rfl) (ble rfl) (ble rfl) (ble rfl) (ble rfl) (fun r h9 hq => ?_) (fun ex h9 he hq => ?_)
  · obtain ⟨v, hv, rfl, rfl⟩ := hq
    rcases H with ⟨v2, hv2, rfl⟩ | ⟨_, _, hv2, _⟩
    · obtain rfl : v = v2 := Sum.inl.inj (hv.symm.trans hv2)
      refine ar_i2l dL_flourishLetter_8 ?_
      refine ar_last (n := 1) dL_flourishLetter_9 rfl (ok_X rfl) (ib_in (by decide)) ?_
      refine ar_goto 17 dL_flourishLetter_10 (by decide) ?_
      refine ar_iconst (iI 0) dL_flourishLetter_17 rfl ?_
      exact ar_iret dL_flourishLetter_18 rfl rfl ⟨rfl, rfl⟩
    · exact absurd (hv.symm.trans hv2) (fun z => by cases z)
  · obtain ⟨hx, rfl⟩ := hq
    rcases H with ⟨v2, hv2, _⟩ | ⟨e2, k2, hv2, hk, rfl⟩
    · exact absurd (hx.symm.trans hv2) (fun z => by cases z)
    · obtain rfl : ex = e2 := Sum.inr.inj (hx.symm.trans hv2)
      match ex, he, hk with
      | 0, _, hk => cases hk
      | 1, _, hk => cases hk
      | 2, _, hk =>
        cases hk
        refine ⟨13, ⟨[], (0, 10, 13, 35), [], rfl, (fun z hz => by cases hz), by decide, by decide, rfl, by decide, am_lk2, am_dc 2⟩, fun q9 => ?_⟩
        refine ar_astoreV (i := 4) dL_flourishLetter_13 (ble rfl) (ble rfl) trivial rfl ?_
        refine ar_iconst (iI 1) dL_flourishLetter_15 rfl ?_
        exact ar_iret dL_flourishLetter_16 rfl rfl ⟨rfl, rfl⟩
      | n + 3, he, _ => exact absurd he (by omega)
noncomputable def f_L_partsAt (x1 : Int32) (h : am_H) : Option (Int32 × am_H) := lw_ret ((f_X11_partsAt x1 h).map (fun a => (a, h))) (fun e => match e with | 1 => some (iI 1) | _ => none)
theorem mc_L_partsAt : am_cw yL_partsAt cL_partsAt 4 (some .int) [(0, 9, 12, 19)] 3 := ⟨by decide +kernel, by decide +kernel, by decide +kernel, by decide, by decide, by decide +kernel⟩
theorem c_L_partsAt {x1 : Int32} {h : am_H} {a : Int32 × am_H} (e : f_L_partsAt x1 h = some a) : am_MW yL_partsAt cL_partsAt 4 (some .int) [(0, 9, 12, 19)] 9 152 [am_r (.inl 1) 0, am_i x1, am_r (.inl 1) 18] h (fun r h9 => r = some (am_i a.1) ∧ h9 = a.2) := by
  refine am_MW.of (A := [some (am_r (.inl 1) 0), some (am_i x1), some (am_r (.inl 1) 18), none]) (by decide +kernel) rfl (ble rfl) ?_
  obtain ⟨q, e1, H⟩ := lw_ret_v e
  obtain ⟨q0, e0, rfl⟩ := Option.map_eq_some_iff.mp e1
  refine rl_a2 dL_partsAt_0 ?_
  refine ar_iconst (iI (0)) dL_partsAt_1 rfl ?_
  refine rl_a0 dL_partsAt_2 ?_
  refine rl_i1 dL_partsAt_3 ?_
  refine ar_callX (As := [am_i x1]) dL_partsAt_4 ml_L_46 mc_X11_partsAt (c_X11_partsAt e0) rfl rfl rfl (ok_X rfl) rfl (ble rfl) (ble rfl) (ble rfl) (ble rfl) (ble rfl) (fun r h9 hq => ?_) (fun ex h9 he hq => ?_)
  · obtain ⟨v, hv, rfl, rfl⟩ := hq
    rcases H with ⟨v2, hv2, rfl⟩ | ⟨_, _, hv2, _⟩
    · obtain rfl : v = v2 := Sum.inl.inj (hv.symm.trans hv2)
      refine ar_i2l dL_partsAt_7 ?_
      refine ar_last (n := 1) dL_partsAt_8 rfl (ok_X rfl) (ib_in (by decide)) ?_
      refine ar_goto 15 dL_partsAt_9 (by decide) ?_
      refine ar_iconst (iI 0) dL_partsAt_15 rfl ?_
      exact ar_iret dL_partsAt_16 rfl rfl ⟨rfl, rfl⟩
    · exact absurd (hv.symm.trans hv2) (fun z => by cases z)
  · obtain ⟨hx, rfl⟩ := hq
    rcases H with ⟨v2, hv2, _⟩ | ⟨e2, k2, hv2, hk, rfl⟩
    · exact absurd (hx.symm.trans hv2) (fun z => by cases z)
    · obtain rfl : ex = e2 := Sum.inr.inj (hx.symm.trans hv2)
      match ex, he, hk with
      | 0, _, hk => cases hk
      | 1, _, hk =>
        cases hk
        refine ⟨12, ⟨[], (0, 9, 12, 19), [], rfl, (fun z hz => by cases hz), by decide, by decide, rfl, by decide, am_lk1, am_dc 1⟩, fun q9 => ?_⟩
        refine ar_astoreV_n (i := 3) dL_partsAt_12 rfl (ble rfl) (ble rfl) trivial rfl ?_
        refine ar_iconst (iI 1) dL_partsAt_13 rfl ?_
        exact ar_iret dL_partsAt_14 rfl rfl ⟨rfl, rfl⟩
      | 2, _, hk => cases hk
      | n + 3, he, _ => exact absurd he (by omega)
noncomputable def f_L_heading (x1 : Int32) (h : am_H) : Option (Int32 × am_H) := lw_ret ((f_X11_heading x1 h).map (fun a => (a, h))) (fun e => match e with | 1 => some (iI 1) | _ => none)
theorem mc_L_heading : am_cw yL_heading cL_heading 4 (some .int) [(0, 9, 12, 19)] 3 := ⟨by decide +kernel, by decide +kernel, by decide +kernel, by decide, by decide, by decide +kernel⟩
theorem c_L_heading {x1 : Int32} {h : am_H} {a : Int32 × am_H} (e : f_L_heading x1 h = some a) : am_MW yL_heading cL_heading 4 (some .int) [(0, 9, 12, 19)] 9 152 [am_r (.inl 1) 0, am_i x1, am_r (.inl 1) 18] h (fun r h9 => r = some (am_i a.1) ∧ h9 = a.2) := by
  refine am_MW.of (A := [some (am_r (.inl 1) 0), some (am_i x1), some (am_r (.inl 1) 18), none]) (by decide +kernel) rfl (ble rfl) ?_
  obtain ⟨q, e1, H⟩ := lw_ret_v e
  obtain ⟨q0, e0, rfl⟩ := Option.map_eq_some_iff.mp e1
  refine rl_a2 dL_heading_0 ?_
  refine ar_iconst (iI (0)) dL_heading_1 rfl ?_
  refine rl_a0 dL_heading_2 ?_
  refine rl_i1 dL_heading_3 ?_
  refine ar_callX (As := [am_i x1]) dL_heading_4 ml_L_49 mc_X11_heading (c_X11_heading e0) rfl rfl rfl (ok_X rfl) rfl (ble rfl) (ble rfl) (ble rfl) (ble rfl) (ble rfl) (fun r h9 hq => ?_) (fun ex h9 he hq => ?_)
  · obtain ⟨v, hv, rfl, rfl⟩ := hq
    rcases H with ⟨v2, hv2, rfl⟩ | ⟨_, _, hv2, _⟩
    · obtain rfl : v = v2 := Sum.inl.inj (hv.symm.trans hv2)
      refine ar_i2l dL_heading_7 ?_
      refine ar_last (n := 1) dL_heading_8 rfl (ok_X rfl) (ib_in (by decide)) ?_
      refine ar_goto 15 dL_heading_9 (by decide) ?_
      refine ar_iconst (iI 0) dL_heading_15 rfl ?_
      exact ar_iret dL_heading_16 rfl rfl ⟨rfl, rfl⟩
    · exact absurd (hv.symm.trans hv2) (fun z => by cases z)
  · obtain ⟨hx, rfl⟩ := hq
    rcases H with ⟨v2, hv2, _⟩ | ⟨e2, k2, hv2, hk, rfl⟩
    · exact absurd (hx.symm.trans hv2) (fun z => by cases z)
    · obtain rfl : ex = e2 := Sum.inr.inj (hx.symm.trans hv2)
      match ex, he, hk with
      | 0, _, hk => cases hk
      | 1, _, hk =>
        cases hk
        refine ⟨12, ⟨[], (0, 9, 12, 19), [], rfl, (fun z hz => by cases hz), by decide, by decide, rfl, by decide, am_lk1, am_dc 1⟩, fun q9 => ?_⟩
        refine ar_astoreV_n (i := 3) dL_heading_12 rfl (ble rfl) (ble rfl) trivial rfl ?_
        refine ar_iconst (iI 1) dL_heading_13 rfl ?_
        exact ar_iret dL_heading_14 rfl rfl ⟨rfl, rfl⟩
      | 2, _, hk => cases hk
      | n + 3, he, _ => exact absurd he (by omega)
noncomputable def f_L_turnAt (x1 : Int32) (h : am_H) : Option (Int32 × am_H) := lw_ret ((f_X11_turnAt x1 h).map (fun a => (a, h))) (fun e => match e with | 1 => some (iI 1) | _ => none)
theorem mc_L_turnAt : am_cw yL_turnAt cL_turnAt 4 (some .int) [(0, 9, 12, 19)] 3 := ⟨by decide +kernel, by decide +kernel, by decide +kernel, by decide, by decide, by decide +kernel⟩
theorem c_L_turnAt {x1 : Int32} {h : am_H} {a : Int32 × am_H} (e : f_L_turnAt x1 h = some a) : am_MW yL_turnAt cL_turnAt 4 (some .int) [(0, 9, 12, 19)] 9 152 [am_r (.inl 1) 0, am_i x1, am_r (.inl 1) 18] h (fun r h9 => r = some (am_i a.1) ∧ h9 = a.2) := by
  refine am_MW.of (A := [some (am_r (.inl 1) 0), some (am_i x1), some (am_r (.inl 1) 18), none]) (by decide +kernel) rfl (ble rfl) ?_
  obtain ⟨q, e1, H⟩ := lw_ret_v e
  obtain ⟨q0, e0, rfl⟩ := Option.map_eq_some_iff.mp e1
  refine rl_a2 dL_turnAt_0 ?_
  refine ar_iconst (iI (0)) dL_turnAt_1 rfl ?_
  refine rl_a0 dL_turnAt_2 ?_
  refine rl_i1 dL_turnAt_3 ?_
  refine ar_callX (As := [am_i x1]) dL_turnAt_4 ml_L_52 mc_X11_turnAt (c_X11_turnAt e0) rfl rfl rfl (ok_X rfl) rfl (ble rfl) (ble rfl) (ble rfl) (ble rfl) (ble rfl) (fun r h9 hq => ?_) (fun ex h9 he hq => ?_)
  · obtain ⟨v, hv, rfl, rfl⟩ := hq
    rcases H with ⟨v2, hv2, rfl⟩ | ⟨_, _, hv2, _⟩
    · obtain rfl : v = v2 := Sum.inl.inj (hv.symm.trans hv2)
      refine ar_i2l dL_turnAt_7 ?_
      refine ar_last (n := 1) dL_turnAt_8 rfl (ok_X rfl) (ib_in (by decide)) ?_
      refine ar_goto 15 dL_turnAt_9 (by decide) ?_
      refine ar_iconst (iI 0) dL_turnAt_15 rfl ?_
      exact ar_iret dL_turnAt_16 rfl rfl ⟨rfl, rfl⟩
    · exact absurd (hv.symm.trans hv2) (fun z => by cases z)
  · obtain ⟨hx, rfl⟩ := hq
    rcases H with ⟨v2, hv2, _⟩ | ⟨e2, k2, hv2, hk, rfl⟩
    · exact absurd (hx.symm.trans hv2) (fun z => by cases z)
    · obtain rfl : ex = e2 := Sum.inr.inj (hx.symm.trans hv2)
      match ex, he, hk with
      | 0, _, hk => cases hk
      | 1, _, hk =>
        cases hk
        refine ⟨12, ⟨[], (0, 9, 12, 19), [], rfl, (fun z hz => by cases hz), by decide, by decide, rfl, by decide, am_lk1, am_dc 1⟩, fun q9 => ?_⟩
        refine ar_astoreV_n (i := 3) dL_turnAt_12 rfl (ble rfl) (ble rfl) trivial rfl ?_
        refine ar_iconst (iI 1) dL_turnAt_13 rfl ?_
        exact ar_iret dL_turnAt_14 rfl rfl ⟨rfl, rfl⟩
      | 2, _, hk => cases hk
      | n + 3, he, _ => exact absurd he (by omega)
noncomputable def f_L_room (x1 : Int32) (h : am_H) : Option (Int32 × am_H) := lw_ret (f_X11_room x1 h) (fun e => match e with | 2 => some (iI 1) | _ => none)
theorem mc_L_room : am_cw yL_room cL_room 4 (some .int) [(0, 9, 12, 35)] 3 := ⟨by decide +kernel, by decide +kernel, by decide +kernel, by decide, by decide, by decide +kernel⟩
theorem c_L_room {x1 : Int32} {h : am_H} {a : Int32 × am_H} (e : f_L_room x1 h = some a) : am_MW yL_room cL_room 4 (some .int) [(0, 9, 12, 35)] 9 152 [am_r (.inl 1) 0, am_i x1, am_r (.inl 1) 18] h (fun r h9 => r = some (am_i a.1) ∧ h9 = a.2) := by
  refine am_MW.of (A := [some (am_r (.inl 1) 0), some (am_i x1), some (am_r (.inl 1) 18), none]) (by decide +kernel) rfl (ble rfl) ?_
  obtain ⟨q, e1, H⟩ := lw_ret_v e
  refine rl_a2 dL_room_0 ?_
  refine ar_iconst (iI (0)) dL_room_1 rfl ?_
  refine rl_a0 dL_room_2 ?_
  refine rl_i1 dL_room_3 ?_
  refine ar_callX (As := [am_i x1]) dL_room_4 ml_L_55 mc_X11_room (c_X11_room e1) rfl rfl rfl (ok_X rfl) rfl (ble rfl) (ble rfl) (ble rfl) (ble rfl) (ble rfl) (fun r h9 hq => ?_) (fun ex h9 he hq => ?_)
  · obtain ⟨v, hv, rfl, rfl⟩ := hq
    rcases H with ⟨v2, hv2, rfl⟩ | ⟨_, _, hv2, _⟩
    · obtain rfl : v = v2 := Sum.inl.inj (hv.symm.trans hv2)
      refine ar_i2l dL_room_7 ?_
      refine ar_last (n := 1) dL_room_8 rfl (ok_X rfl) (ib_in (by decide)) ?_
      refine ar_goto 15 dL_room_9 (by decide) ?_
      refine ar_iconst (iI 0) dL_room_15 rfl ?_
      exact ar_iret dL_room_16 rfl rfl ⟨rfl, rfl⟩
    · exact absurd (hv.symm.trans hv2) (fun z => by cases z)
  · obtain ⟨hx, rfl⟩ := hq
    rcases H with ⟨v2, hv2, _⟩ | ⟨e2, k2, hv2, hk, rfl⟩
    · exact absurd (hx.symm.trans hv2) (fun z => by cases z)
    · obtain rfl : ex = e2 := Sum.inr.inj (hx.symm.trans hv2)
      match ex, he, hk with
      | 0, _, hk => cases hk
      | 1, _, hk => cases hk
      | 2, _, hk =>
        cases hk
        refine ⟨12, ⟨[], (0, 9, 12, 35), [], rfl, (fun z hz => by cases hz), by decide, by decide, rfl, by decide, am_lk2, am_dc 2⟩, fun q9 => ?_⟩
        refine ar_astoreV_n (i := 3) dL_room_12 rfl (ble rfl) (ble rfl) trivial rfl ?_
        refine ar_iconst (iI 1) dL_room_13 rfl ?_
        exact ar_iret dL_room_14 rfl rfl ⟨rfl, rfl⟩
      | n + 3, he, _ => exact absurd he (by omega)
noncomputable def f_L_flourishIn (x1 : Int32) (h : am_H) : Option (Int32 × am_H) := lw_ret (f_X11_flourishIn x1 h) (fun e => match e with | 2 => some (iI 1) | _ => none)
theorem mc_L_flourishIn : am_cw yL_flourishIn cL_flourishIn 4 (some .int) [(0, 9, 12, 35)] 3 := ⟨by decide +kernel, by decide +kernel, by decide +kernel, by decide, by decide, by decide +kernel⟩
theorem c_L_flourishIn {x1 : Int32} {h : am_H} {a : Int32 × am_H} (e : f_L_flourishIn x1 h = some a) : am_MW yL_flourishIn cL_flourishIn 4 (some .int) [(0, 9, 12, 35)] 9 152 [am_r (.inl 1) 0, am_i x1, am_r (.inl 1) 18] h (fun r h9 => r = some (am_i a.1) ∧ h9 = a.2) := by
  refine am_MW.of (A := [some (am_r (.inl 1) 0), some (am_i x1), some (am_r (.inl 1) 18), none]) (by decide +kernel) rfl (ble rfl) ?_
  obtain ⟨q, e1, H⟩ := lw_ret_v e
  refine rl_a2 dL_flourishIn_0 ?_
  refine ar_iconst (iI (0)) dL_flourishIn_1 rfl ?_
  refine rl_a0 dL_flourishIn_2 ?_
  refine rl_i1 dL_flourishIn_3 ?_
  refine ar_callX (As := [am_i x1]) dL_flourishIn_4 ml_L_58 mc_X11_flourishIn (c_X11_flourishIn e1) rfl rfl rfl (ok_X rfl) rfl (ble rfl) (ble rfl) (ble rfl) (ble rfl) (ble rfl) (fun r h9 hq => ?_) (fun ex h9 he hq => ?_)
  · obtain ⟨v, hv, rfl, rfl⟩ := hq
    rcases H with ⟨v2, hv2, rfl⟩ | ⟨_, _, hv2, _⟩
    · obtain rfl : v = v2 := Sum.inl.inj (hv.symm.trans hv2)
      refine ar_i2l dL_flourishIn_7 ?_
      refine ar_last (n := 1) dL_flourishIn_8 rfl (ok_X rfl) (ib_in (by decide)) ?_
      refine ar_goto 15 dL_flourishIn_9 (by decide) ?_
      refine ar_iconst (iI 0) dL_flourishIn_15 rfl ?_
      exact ar_iret dL_flourishIn_16 rfl rfl ⟨rfl, rfl⟩
    · exact absurd (hv.symm.trans hv2) (fun z => by cases z)
  · obtain ⟨hx, rfl⟩ := hq
    rcases H with ⟨v2, hv2, _⟩ | ⟨e2, k2, hv2, hk, rfl⟩
    · exact absurd (hx.symm.trans hv2) (fun z => by cases z)
    · obtain rfl : ex = e2 := Sum.inr.inj (hx.symm.trans hv2)
      match ex, he, hk with
      | 0, _, hk => cases hk
      | 1, _, hk => cases hk
      | 2, _, hk =>
        cases hk
        refine ⟨12, ⟨[], (0, 9, 12, 35), [], rfl, (fun z hz => by cases hz), by decide, by decide, rfl, by decide, am_lk2, am_dc 2⟩, fun q9 => ?_⟩
        refine ar_astoreV_n (i := 3) dL_flourishIn_12 rfl (ble rfl) (ble rfl) trivial rfl ?_
        refine ar_iconst (iI 1) dL_flourishIn_13 rfl ?_
        exact ar_iret dL_flourishIn_14 rfl rfl ⟨rfl, rfl⟩
      | n + 3, he, _ => exact absurd he (by omega)
noncomputable def f_L_stockLeft (x1 : Int32) (h : am_H) : Option (Int32 × am_H) := lw_ret (f_X11_stockLeft x1 h) (fun e => match e with | 2 => some (iI 1) | _ => none)
theorem mc_L_stockLeft : am_cw yL_stockLeft cL_stockLeft 4 (some .int) [(0, 9, 12, 35)] 3 := ⟨by decide +kernel, by decide +kernel, by decide +kernel, by decide, by decide, by decide +kernel⟩
theorem c_L_stockLeft {x1 : Int32} {h : am_H} {a : Int32 × am_H} (e : f_L_stockLeft x1 h = some a) : am_MW yL_stockLeft cL_stockLeft 4 (some .int) [(0, 9, 12, 35)] 9 152 [am_r (.inl 1) 0, am_i x1, am_r (.inl 1) 18] h (fun r h9 => r = some (am_i a.1) ∧ h9 = a.2) := by
  refine am_MW.of (A := [some (am_r (.inl 1) 0), some (am_i x1), some (am_r (.inl 1) 18), none]) (by decide +kernel) rfl (ble rfl) ?_
  obtain ⟨q, e1, H⟩ := lw_ret_v e
  refine rl_a2 dL_stockLeft_0 ?_
  refine ar_iconst (iI (0)) dL_stockLeft_1 rfl ?_
  refine rl_a0 dL_stockLeft_2 ?_
  refine rl_i1 dL_stockLeft_3 ?_
  refine ar_callX (As := [am_i x1]) dL_stockLeft_4 ml_L_61 mc_X11_stockLeft (c_X11_stockLeft e1) rfl rfl rfl (ok_X rfl) rfl (ble rfl) (ble rfl) (ble rfl) (ble rfl) (ble rfl) (fun r h9 hq => ?_) (fun ex h9 he hq => ?_)
  · obtain ⟨v, hv, rfl, rfl⟩ := hq
    rcases H with ⟨v2, hv2, rfl⟩ | ⟨_, _, hv2, _⟩
    · obtain rfl : v = v2 := Sum.inl.inj (hv.symm.trans hv2)
      refine ar_i2l dL_stockLeft_7 ?_
      refine ar_last (n := 1) dL_stockLeft_8 rfl (ok_X rfl) (ib_in (by decide)) ?_
      refine ar_goto 15 dL_stockLeft_9 (by decide) ?_
      refine ar_iconst (iI 0) dL_stockLeft_15 rfl ?_
      exact ar_iret dL_stockLeft_16 rfl rfl ⟨rfl, rfl⟩
    · exact absurd (hv.symm.trans hv2) (fun z => by cases z)
  · obtain ⟨hx, rfl⟩ := hq
    rcases H with ⟨v2, hv2, _⟩ | ⟨e2, k2, hv2, hk, rfl⟩
    · exact absurd (hx.symm.trans hv2) (fun z => by cases z)
    · obtain rfl : ex = e2 := Sum.inr.inj (hx.symm.trans hv2)
      match ex, he, hk with
      | 0, _, hk => cases hk
      | 1, _, hk => cases hk
      | 2, _, hk =>
        cases hk
        refine ⟨12, ⟨[], (0, 9, 12, 35), [], rfl, (fun z hz => by cases hz), by decide, by decide, rfl, by decide, am_lk2, am_dc 2⟩, fun q9 => ?_⟩
        refine ar_astoreV_n (i := 3) dL_stockLeft_12 rfl (ble rfl) (ble rfl) trivial rfl ?_
        refine ar_iconst (iI 1) dL_stockLeft_13 rfl ?_
        exact ar_iret dL_stockLeft_14 rfl rfl ⟨rfl, rfl⟩
      | n + 3, he, _ => exact absurd he (by omega)
noncomputable def f_L_danger (x1 : Int32) (h : am_H) : Option (Int32 × am_H) := lw_ret ((f_X11_danger x1 h).map (fun a => (a, h))) (fun e => match e with | 2 => some (iI 1) | _ => none)
theorem mc_L_danger : am_cw yL_danger cL_danger 4 (some .int) [(0, 9, 12, 35)] 3 := ⟨by decide +kernel, by decide +kernel, by decide +kernel, by decide, by decide, by decide +kernel⟩
theorem c_L_danger {x1 : Int32} {h : am_H} {a : Int32 × am_H} (e : f_L_danger x1 h = some a) : am_MW yL_danger cL_danger 4 (some .int) [(0, 9, 12, 35)] 9 153 [am_r (.inl 1) 0, am_i x1, am_r (.inl 1) 18] h (fun r h9 => r = some (am_i a.1) ∧ h9 = a.2) := by
  refine am_MW.of (A := [some (am_r (.inl 1) 0), some (am_i x1), some (am_r (.inl 1) 18), none]) (by decide +kernel) rfl (ble rfl) ?_
  obtain ⟨q, e1, H⟩ := lw_ret_v e
  obtain ⟨q0, e0, rfl⟩ := Option.map_eq_some_iff.mp e1
  refine rl_a2 dL_danger_0 ?_
  refine ar_iconst (iI (0)) dL_danger_1 rfl ?_
  refine rl_a0 dL_danger_2 ?_
  refine rl_i1 dL_danger_3 ?_
  refine ar_callX (As := [am_i x1]) dL_danger_4 ml_L_64 mc_X11_danger (c_X11_danger e0) rfl rfl rfl (ok_X rfl) rfl (ble rfl) (ble rfl) (ble rfl) (ble rfl) (ble rfl) (fun r h9 hq => ?_) (fun ex h9 he hq => ?_)
  · obtain ⟨v, hv, rfl, rfl⟩ := hq
    rcases H with ⟨v2, hv2, rfl⟩ | ⟨_, _, hv2, _⟩
    · obtain rfl : v = v2 := Sum.inl.inj (hv.symm.trans hv2)
      refine ar_i2l dL_danger_7 ?_
      refine ar_last (n := 1) dL_danger_8 rfl (ok_X rfl) (ib_in (by decide)) ?_
      refine ar_goto 15 dL_danger_9 (by decide) ?_
      refine ar_iconst (iI 0) dL_danger_15 rfl ?_
      exact ar_iret dL_danger_16 rfl rfl ⟨rfl, rfl⟩
    · exact absurd (hv.symm.trans hv2) (fun z => by cases z)
  · obtain ⟨hx, rfl⟩ := hq
    rcases H with ⟨v2, hv2, _⟩ | ⟨e2, k2, hv2, hk, rfl⟩
    · exact absurd (hx.symm.trans hv2) (fun z => by cases z)
    · obtain rfl : ex = e2 := Sum.inr.inj (hx.symm.trans hv2)
      match ex, he, hk with
      | 0, _, hk => cases hk
      | 1, _, hk => cases hk
      | 2, _, hk =>
        cases hk
        refine ⟨12, ⟨[], (0, 9, 12, 35), [], rfl, (fun z hz => by cases hz), by decide, by decide, rfl, by decide, am_lk2, am_dc 2⟩, fun q9 => ?_⟩
        refine ar_astoreV_n (i := 3) dL_danger_12 rfl (ble rfl) (ble rfl) trivial rfl ?_
        refine ar_iconst (iI 1) dL_danger_13 rfl ?_
        exact ar_iret dL_danger_14 rfl rfl ⟨rfl, rfl⟩
      | n + 3, he, _ => exact absurd he (by omega)
noncomputable def f_L_mostWidth (x1 : Int32) (h : am_H) : Option (Int32 × am_H) := lw_ret (f_X11_mostWidth x1 h) (fun e => match e with | 1 => some (iI 1) | _ => none)
theorem mc_L_mostWidth : am_cw yL_mostWidth cL_mostWidth 4 (some .int) [(0, 9, 12, 19)] 3 := ⟨by decide +kernel, by decide +kernel, by decide +kernel, by decide, by decide, by decide +kernel⟩
theorem c_L_mostWidth {x1 : Int32} {h : am_H} {a : Int32 × am_H} (e : f_L_mostWidth x1 h = some a) : am_MW yL_mostWidth cL_mostWidth 4 (some .int) [(0, 9, 12, 19)] 9 153 [am_r (.inl 1) 0, am_i x1, am_r (.inl 1) 18] h (fun r h9 => r = some (am_i a.1) ∧ h9 = a.2) := by
  refine am_MW.of (A := [some (am_r (.inl 1) 0), some (am_i x1), some (am_r (.inl 1) 18), none]) (by decide +kernel) rfl (ble rfl) ?_
  obtain ⟨q, e1, H⟩ := lw_ret_v e
  refine rl_a2 dL_mostWidth_0 ?_
  refine ar_iconst (iI (0)) dL_mostWidth_1 rfl ?_
  refine rl_a0 dL_mostWidth_2 ?_
  refine rl_i1 dL_mostWidth_3 ?_
  refine ar_callX (As := [am_i x1]) dL_mostWidth_4 ml_L_67 mc_X11_mostWidth (c_X11_mostWidth e1) rfl rfl rfl (ok_X rfl) rfl (ble rfl) (ble rfl) (ble rfl) (ble rfl) (ble rfl) (fun r h9 hq => ?_) (fun ex h9 he hq => ?_)
  · obtain ⟨v, hv, rfl, rfl⟩ := hq
    rcases H with ⟨v2, hv2, rfl⟩ | ⟨_, _, hv2, _⟩
    · obtain rfl : v = v2 := Sum.inl.inj (hv.symm.trans hv2)
      refine ar_i2l dL_mostWidth_7 ?_
      refine ar_last (n := 1) dL_mostWidth_8 rfl (ok_X rfl) (ib_in (by decide)) ?_
      refine ar_goto 15 dL_mostWidth_9 (by decide) ?_
      refine ar_iconst (iI 0) dL_mostWidth_15 rfl ?_
      exact ar_iret dL_mostWidth_16 rfl rfl ⟨rfl, rfl⟩
    · exact absurd (hv.symm.trans hv2) (fun z => by cases z)
  · obtain ⟨hx, rfl⟩ := hq
    rcases H with ⟨v2, hv2, _⟩ | ⟨e2, k2, hv2, hk, rfl⟩
    · exact absurd (hx.symm.trans hv2) (fun z => by cases z)
    · obtain rfl : ex = e2 := Sum.inr.inj (hx.symm.trans hv2)
      match ex, he, hk with
      | 0, _, hk => cases hk
      | 1, _, hk =>
        cases hk
        refine ⟨12, ⟨[], (0, 9, 12, 19), [], rfl, (fun z hz => by cases hz), by decide, by decide, rfl, by decide, am_lk1, am_dc 1⟩, fun q9 => ?_⟩
        refine ar_astoreV_n (i := 3) dL_mostWidth_12 rfl (ble rfl) (ble rfl) trivial rfl ?_
        refine ar_iconst (iI 1) dL_mostWidth_13 rfl ?_
        exact ar_iret dL_mostWidth_14 rfl rfl ⟨rfl, rfl⟩
      | 2, _, hk => cases hk
      | n + 3, he, _ => exact absurd he (by omega)
noncomputable def f_L_tightestIf (h : am_H) : Option (Int32 × am_H) := lw_ret (f_X11_tightestIf h) (fun e => match e with | 1 => some (iI 1) | _ => none)
theorem mc_L_tightestIf : am_cw yL_tightestIf cL_tightestIf 3 (some .int) [(0, 8, 11, 19)] 2 := ⟨by decide +kernel, by decide +kernel, by decide +kernel, by decide, by decide, by decide +kernel⟩
theorem c_L_tightestIf {h : am_H} {a : Int32 × am_H} (e : f_L_tightestIf h = some a) : am_MW yL_tightestIf cL_tightestIf 3 (some .int) [(0, 8, 11, 19)] 9 153 [am_r (.inl 1) 0, am_r (.inl 1) 18] h (fun r h9 => r = some (am_i a.1) ∧ h9 = a.2) := by
  refine am_MW.of (A := [some (am_r (.inl 1) 0), some (am_r (.inl 1) 18), none]) (by decide +kernel) rfl (ble rfl) ?_
  obtain ⟨q, e1, H⟩ := lw_ret_v e
  refine rl_a1 dL_tightestIf_0 ?_
  refine ar_iconst (iI (0)) dL_tightestIf_1 rfl ?_
  refine rl_a0 dL_tightestIf_2 ?_
  refine ar_callX (As := []) dL_tightestIf_3 ml_L_70 mc_X11_tightestIf (c_X11_tightestIf e1) rfl rfl rfl (ok_X rfl) rfl (ble rfl) (ble rfl) (ble rfl) (ble rfl) (ble rfl) (fun r h9 hq => ?_) (fun ex h9 he hq => ?_)
  · obtain ⟨v, hv, rfl, rfl⟩ := hq
    rcases H with ⟨v2, hv2, rfl⟩ | ⟨_, _, hv2, _⟩
    · obtain rfl : v = v2 := Sum.inl.inj (hv.symm.trans hv2)
      refine ar_i2l dL_tightestIf_6 ?_
      refine ar_last (n := 1) dL_tightestIf_7 rfl (ok_X rfl) (ib_in (by decide)) ?_
      refine ar_goto 14 dL_tightestIf_8 (by decide) ?_
      refine ar_iconst (iI 0) dL_tightestIf_14 rfl ?_
      exact ar_iret dL_tightestIf_15 rfl rfl ⟨rfl, rfl⟩
    · exact absurd (hv.symm.trans hv2) (fun z => by cases z)
  · obtain ⟨hx, rfl⟩ := hq
    rcases H with ⟨v2, hv2, _⟩ | ⟨e2, k2, hv2, hk, rfl⟩
    · exact absurd (hx.symm.trans hv2) (fun z => by cases z)
    · obtain rfl : ex = e2 := Sum.inr.inj (hx.symm.trans hv2)
      match ex, he, hk with
      | 0, _, hk => cases hk
      | 1, _, hk =>
        cases hk
        refine ⟨11, ⟨[], (0, 8, 11, 19), [], rfl, (fun z hz => by cases hz), by decide, by decide, rfl, by decide, am_lk1, am_dc 1⟩, fun q9 => ?_⟩
        refine ar_astoreV_n (i := 2) dL_tightestIf_11 rfl (ble rfl) (ble rfl) trivial rfl ?_
        refine ar_iconst (iI 1) dL_tightestIf_12 rfl ?_
        exact ar_iret dL_tightestIf_13 rfl rfl ⟨rfl, rfl⟩
      | 2, _, hk => cases hk
      | n + 3, he, _ => exact absurd he (by omega)
noncomputable def f_L_engrave (x1 : Int32) (h : am_H) : Option (Int32 × am_H) := lw_ret (f_X11_engrave x1 h) (fun e => match e with | 0 => some (iI 2) | 2 => some (iI 1) | _ => none)
theorem mc_L_engrave : am_cw yL_engrave cL_engrave 4 (some .int) [(0, 9, 12, 35), (0, 9, 15, 13)] 3 := ⟨by decide +kernel, by decide +kernel, by decide +kernel, by decide, by decide, by decide +kernel⟩
theorem c_L_engrave {x1 : Int32} {h : am_H} {a : Int32 × am_H} (e : f_L_engrave x1 h = some a) : am_MW yL_engrave cL_engrave 4 (some .int) [(0, 9, 12, 35), (0, 9, 15, 13)] 9 152 [am_r (.inl 1) 0, am_i x1, am_r (.inl 1) 18] h (fun r h9 => r = some (am_i a.1) ∧ h9 = a.2) := by
  refine am_MW.of (A := [some (am_r (.inl 1) 0), some (am_i x1), some (am_r (.inl 1) 18), none]) (by decide +kernel) rfl (ble rfl) ?_
  obtain ⟨q, e1, H⟩ := lw_ret_v e
  refine rl_a2 dL_engrave_0 ?_
  refine ar_iconst (iI (0)) dL_engrave_1 rfl ?_
  refine rl_a0 dL_engrave_2 ?_
  refine rl_i1 dL_engrave_3 ?_
  refine ar_callX (As := [am_i x1]) dL_engrave_4 ml_L_73 mc_X11_engrave (c_X11_engrave e1) rfl rfl rfl (ok_X rfl) rfl (ble rfl) (ble rfl) (ble rfl) (ble rfl) (ble rfl) (fun r h9 hq => ?_) (fun ex h9 he hq => ?_)
  · obtain ⟨v, hv, rfl, rfl⟩ := hq
    rcases H with ⟨v2, hv2, rfl⟩ | ⟨_, _, hv2, _⟩
    · obtain rfl : v = v2 := Sum.inl.inj (hv.symm.trans hv2)
      refine ar_i2l dL_engrave_7 ?_
      refine ar_last (n := 1) dL_engrave_8 rfl (ok_X rfl) (ib_in (by decide)) ?_
      refine ar_goto 18 dL_engrave_9 (by decide) ?_
      refine ar_iconst (iI 0) dL_engrave_18 rfl ?_
      exact ar_iret dL_engrave_19 rfl rfl ⟨rfl, rfl⟩
    · exact absurd (hv.symm.trans hv2) (fun z => by cases z)
  · obtain ⟨hx, rfl⟩ := hq
    rcases H with ⟨v2, hv2, _⟩ | ⟨e2, k2, hv2, hk, rfl⟩
    · exact absurd (hx.symm.trans hv2) (fun z => by cases z)
    · obtain rfl : ex = e2 := Sum.inr.inj (hx.symm.trans hv2)
      match ex, he, hk with
      | 0, _, hk =>
        cases hk
        refine ⟨15, ⟨[(0, 9, 12, 35)], (0, 9, 15, 13), [], rfl, (fun z hz => by rcases List.mem_singleton.mp hz with rfl; exact ⟨by decide, 2, by decide, by decide, am_lk2⟩), by decide, by decide, rfl, by decide, am_lk0, am_dc 0⟩, fun q9 => ?_⟩
        refine ar_astoreV_n (i := 3) dL_engrave_15 rfl (ble rfl) (ble rfl) trivial rfl ?_
        refine ar_iconst (iI 2) dL_engrave_16 rfl ?_
        exact ar_iret dL_engrave_17 rfl rfl ⟨rfl, rfl⟩
      | 1, _, hk => cases hk
      | 2, _, hk =>
        cases hk
        refine ⟨12, ⟨[], (0, 9, 12, 35), [(0, 9, 15, 13)], rfl, (fun z hz => by cases hz), by decide, by decide, rfl, by decide, am_lk2, am_dc 2⟩, fun q9 => ?_⟩
        refine ar_astoreV_n (i := 3) dL_engrave_12 rfl (ble rfl) (ble rfl) trivial rfl ?_
        refine ar_iconst (iI 1) dL_engrave_13 rfl ?_
        exact ar_iret dL_engrave_14 rfl rfl ⟨rfl, rfl⟩
      | n + 3, he, _ => exact absurd he (by omega)
noncomputable def f_L_engraveAll (h : am_H) : Option (Int32 × am_H) := lw_ret (f_X11_engraveAll h) (fun e => match e with | 0 => some (iI 1) | _ => none)
theorem mc_L_engraveAll : am_cw yL_engraveAll cL_engraveAll 3 (some .int) [(0, 8, 11, 13)] 2 := ⟨by decide +kernel, by decide +kernel, by decide +kernel, by decide, by decide, by decide +kernel⟩
theorem c_L_engraveAll {h : am_H} {a : Int32 × am_H} (e : f_L_engraveAll h = some a) : am_MW yL_engraveAll cL_engraveAll 3 (some .int) [(0, 8, 11, 13)] 9 151 [am_r (.inl 1) 0, am_r (.inl 1) 18] h (fun r h9 => r = some (am_i a.1) ∧ h9 = a.2) := by
  refine am_MW.of (A := [some (am_r (.inl 1) 0), some (am_r (.inl 1) 18), none]) (by decide +kernel) rfl (ble rfl) ?_
  obtain ⟨q, e1, H⟩ := lw_ret_v e
  refine rl_a1 dL_engraveAll_0 ?_
  refine ar_iconst (iI (0)) dL_engraveAll_1 rfl ?_
  refine rl_a0 dL_engraveAll_2 ?_
  refine ar_callX (As := []) dL_engraveAll_3 ml_L_76 mc_X11_engraveAll (c_X11_engraveAll e1) rfl rfl rfl (ok_X rfl) rfl (ble rfl) (ble rfl) (ble rfl) (ble rfl) (ble rfl) (fun r h9 hq => ?_) (fun ex h9 he hq => ?_)
  · obtain ⟨v, hv, rfl, rfl⟩ := hq
    rcases H with ⟨v2, hv2, rfl⟩ | ⟨_, _, hv2, _⟩
    · obtain rfl : v = v2 := Sum.inl.inj (hv.symm.trans hv2)
      refine ar_i2l dL_engraveAll_6 ?_
      refine ar_last (n := 1) dL_engraveAll_7 rfl (ok_X rfl) (ib_in (by decide)) ?_
      refine ar_goto 14 dL_engraveAll_8 (by decide) ?_
      refine ar_iconst (iI 0) dL_engraveAll_14 rfl ?_
      exact ar_iret dL_engraveAll_15 rfl rfl ⟨rfl, rfl⟩
    · exact absurd (hv.symm.trans hv2) (fun z => by cases z)
  · obtain ⟨hx, rfl⟩ := hq
    rcases H with ⟨v2, hv2, _⟩ | ⟨e2, k2, hv2, hk, rfl⟩
    · exact absurd (hx.symm.trans hv2) (fun z => by cases z)
    · obtain rfl : ex = e2 := Sum.inr.inj (hx.symm.trans hv2)
      match ex, he, hk with
      | 0, _, hk =>
        cases hk
        refine ⟨11, ⟨[], (0, 8, 11, 13), [], rfl, (fun z hz => by cases hz), by decide, by decide, rfl, by decide, am_lk0, am_dc 0⟩, fun q9 => ?_⟩
        refine ar_astoreV_n (i := 2) dL_engraveAll_11 rfl (ble rfl) (ble rfl) trivial rfl ?_
        refine ar_iconst (iI 1) dL_engraveAll_12 rfl ?_
        exact ar_iret dL_engraveAll_13 rfl rfl ⟨rfl, rfl⟩
      | 1, _, hk => cases hk
      | 2, _, hk => cases hk
      | n + 3, he, _ => exact absurd he (by omega)
noncomputable def f_L_mend (x1 : Int32) (h : am_H) : Option (Int32 × am_H) := lw_ret (f_X11_mend x1 h) (fun e => match e with | 0 => some (iI 2) | 2 => some (iI 1) | _ => none)
theorem mc_L_mend : am_cw yL_mend cL_mend 4 (some .int) [(0, 9, 12, 35), (0, 9, 15, 13)] 3 := ⟨by decide +kernel, by decide +kernel, by decide +kernel, by decide, by decide, by decide +kernel⟩
theorem c_L_mend {x1 : Int32} {h : am_H} {a : Int32 × am_H} (e : f_L_mend x1 h = some a) : am_MW yL_mend cL_mend 4 (some .int) [(0, 9, 12, 35), (0, 9, 15, 13)] 9 152 [am_r (.inl 1) 0, am_i x1, am_r (.inl 1) 18] h (fun r h9 => r = some (am_i a.1) ∧ h9 = a.2) := by
  refine am_MW.of (A := [some (am_r (.inl 1) 0), some (am_i x1), some (am_r (.inl 1) 18), none]) (by decide +kernel) rfl (ble rfl) ?_
  obtain ⟨q, e1, H⟩ := lw_ret_v e
  refine rl_a2 dL_mend_0 ?_
  refine ar_iconst (iI (0)) dL_mend_1 rfl ?_
  refine rl_a0 dL_mend_2 ?_
  refine rl_i1 dL_mend_3 ?_
  refine ar_callX (As := [am_i x1]) dL_mend_4 ml_L_79 mc_X11_mend (c_X11_mend e1) rfl rfl rfl (ok_X rfl) rfl (ble rfl) (ble rfl) (ble rfl) (ble rfl) (ble rfl) (fun r h9 hq => ?_) (fun ex h9 he hq => ?_)
  · obtain ⟨v, hv, rfl, rfl⟩ := hq
    rcases H with ⟨v2, hv2, rfl⟩ | ⟨_, _, hv2, _⟩
    · obtain rfl : v = v2 := Sum.inl.inj (hv.symm.trans hv2)
      refine ar_i2l dL_mend_7 ?_
      refine ar_last (n := 1) dL_mend_8 rfl (ok_X rfl) (ib_in (by decide)) ?_
      refine ar_goto 18 dL_mend_9 (by decide) ?_
      refine ar_iconst (iI 0) dL_mend_18 rfl ?_
      exact ar_iret dL_mend_19 rfl rfl ⟨rfl, rfl⟩
    · exact absurd (hv.symm.trans hv2) (fun z => by cases z)
  · obtain ⟨hx, rfl⟩ := hq
    rcases H with ⟨v2, hv2, _⟩ | ⟨e2, k2, hv2, hk, rfl⟩
    · exact absurd (hx.symm.trans hv2) (fun z => by cases z)
    · obtain rfl : ex = e2 := Sum.inr.inj (hx.symm.trans hv2)
      match ex, he, hk with
      | 0, _, hk =>
        cases hk
        refine ⟨15, ⟨[(0, 9, 12, 35)], (0, 9, 15, 13), [], rfl, (fun z hz => by rcases List.mem_singleton.mp hz with rfl; exact ⟨by decide, 2, by decide, by decide, am_lk2⟩), by decide, by decide, rfl, by decide, am_lk0, am_dc 0⟩, fun q9 => ?_⟩
        refine ar_astoreV_n (i := 3) dL_mend_15 rfl (ble rfl) (ble rfl) trivial rfl ?_
        refine ar_iconst (iI 2) dL_mend_16 rfl ?_
        exact ar_iret dL_mend_17 rfl rfl ⟨rfl, rfl⟩
      | 1, _, hk => cases hk
      | 2, _, hk =>
        cases hk
        refine ⟨12, ⟨[], (0, 9, 12, 35), [(0, 9, 15, 13)], rfl, (fun z hz => by cases hz), by decide, by decide, rfl, by decide, am_lk2, am_dc 2⟩, fun q9 => ?_⟩
        refine ar_astoreV_n (i := 3) dL_mend_12 rfl (ble rfl) (ble rfl) trivial rfl ?_
        refine ar_iconst (iI 1) dL_mend_13 rfl ?_
        exact ar_iret dL_mend_14 rfl rfl ⟨rfl, rfl⟩
      | n + 3, he, _ => exact absurd he (by omega)
noncomputable def f_L_polish (x1 : Int32) (h : am_H) : Option (Int32 × am_H) := lw_ret (f_X11_polish x1 h) (fun e => match e with | 0 => some (iI 2) | 2 => some (iI 1) | _ => none)
theorem mc_L_polish : am_cw yL_polish cL_polish 4 (some .int) [(0, 9, 12, 35), (0, 9, 15, 13)] 3 := ⟨by decide +kernel, by decide +kernel, by decide +kernel, by decide, by decide, by decide +kernel⟩
theorem c_L_polish {x1 : Int32} {h : am_H} {a : Int32 × am_H} (e : f_L_polish x1 h = some a) : am_MW yL_polish cL_polish 4 (some .int) [(0, 9, 12, 35), (0, 9, 15, 13)] 9 152 [am_r (.inl 1) 0, am_i x1, am_r (.inl 1) 18] h (fun r h9 => r = some (am_i a.1) ∧ h9 = a.2) := by
  refine am_MW.of (A := [some (am_r (.inl 1) 0), some (am_i x1), some (am_r (.inl 1) 18), none]) (by decide +kernel) rfl (ble rfl) ?_
  obtain ⟨q, e1, H⟩ := lw_ret_v e
  refine rl_a2 dL_polish_0 ?_
  refine ar_iconst (iI (0)) dL_polish_1 rfl ?_
  refine rl_a0 dL_polish_2 ?_
  refine rl_i1 dL_polish_3 ?_
  refine ar_callX (As := [am_i x1]) dL_polish_4 ml_L_82 mc_X11_polish (c_X11_polish e1) rfl rfl rfl (ok_X rfl) rfl (ble rfl) (ble rfl) (ble rfl) (ble rfl) (ble rfl) (fun r h9 hq => ?_) (fun ex h9 he hq => ?_)
  · obtain ⟨v, hv, rfl, rfl⟩ := hq
    rcases H with ⟨v2, hv2, rfl⟩ | ⟨_, _, hv2, _⟩
    · obtain rfl : v = v2 := Sum.inl.inj (hv.symm.trans hv2)
      refine ar_i2l dL_polish_7 ?_
      refine ar_last (n := 1) dL_polish_8 rfl (ok_X rfl) (ib_in (by decide)) ?_
      refine ar_goto 18 dL_polish_9 (by decide) ?_
      refine ar_iconst (iI 0) dL_polish_18 rfl ?_
      exact ar_iret dL_polish_19 rfl rfl ⟨rfl, rfl⟩
    · exact absurd (hv.symm.trans hv2) (fun z => by cases z)
  · obtain ⟨hx, rfl⟩ := hq
    rcases H with ⟨v2, hv2, _⟩ | ⟨e2, k2, hv2, hk, rfl⟩
    · exact absurd (hx.symm.trans hv2) (fun z => by cases z)
    · obtain rfl : ex = e2 := Sum.inr.inj (hx.symm.trans hv2)
      match ex, he, hk with
      | 0, _, hk =>
        cases hk
        refine ⟨15, ⟨[(0, 9, 12, 35)], (0, 9, 15, 13), [], rfl, (fun z hz => by rcases List.mem_singleton.mp hz with rfl; exact ⟨by decide, 2, by decide, by decide, am_lk2⟩), by decide, by decide, rfl, by decide, am_lk0, am_dc 0⟩, fun q9 => ?_⟩
        refine ar_astoreV_n (i := 3) dL_polish_15 rfl (ble rfl) (ble rfl) trivial rfl ?_
        refine ar_iconst (iI 2) dL_polish_16 rfl ?_
        exact ar_iret dL_polish_17 rfl rfl ⟨rfl, rfl⟩
      | 1, _, hk => cases hk
      | 2, _, hk =>
        cases hk
        refine ⟨12, ⟨[], (0, 9, 12, 35), [(0, 9, 15, 13)], rfl, (fun z hz => by cases hz), by decide, by decide, rfl, by decide, am_lk2, am_dc 2⟩, fun q9 => ?_⟩
        refine ar_astoreV_n (i := 3) dL_polish_12 rfl (ble rfl) (ble rfl) trivial rfl ?_
        refine ar_iconst (iI 1) dL_polish_13 rfl ?_
        exact ar_iret dL_polish_14 rfl rfl ⟨rfl, rfl⟩
      | n + 3, he, _ => exact absurd he (by omega)
noncomputable def f_L_sharpen (x1 : Int32) (h : am_H) : Option (Int32 × am_H) := lw_ret (f_X11_sharpen x1 h) (fun e => match e with | 1 => some (iI 1) | _ => none)
theorem mc_L_sharpen : am_cw yL_sharpen cL_sharpen 4 (some .int) [(0, 9, 12, 19)] 3 := ⟨by decide +kernel, by decide +kernel, by decide +kernel, by decide, by decide, by decide +kernel⟩
theorem c_L_sharpen {x1 : Int32} {h : am_H} {a : Int32 × am_H} (e : f_L_sharpen x1 h = some a) : am_MW yL_sharpen cL_sharpen 4 (some .int) [(0, 9, 12, 19)] 9 152 [am_r (.inl 1) 0, am_i x1, am_r (.inl 1) 18] h (fun r h9 => r = some (am_i a.1) ∧ h9 = a.2) := by
  refine am_MW.of (A := [some (am_r (.inl 1) 0), some (am_i x1), some (am_r (.inl 1) 18), none]) (by decide +kernel) rfl (ble rfl) ?_
  obtain ⟨q, e1, H⟩ := lw_ret_v e
  refine rl_a2 dL_sharpen_0 ?_
  refine ar_iconst (iI (0)) dL_sharpen_1 rfl ?_
  refine rl_a0 dL_sharpen_2 ?_
  refine rl_i1 dL_sharpen_3 ?_
  refine ar_callX (As := [am_i x1]) dL_sharpen_4 ml_L_85 mc_X11_sharpen (c_X11_sharpen e1) rfl rfl rfl (ok_X rfl) rfl (ble rfl) (ble rfl) (ble rfl) (ble rfl) (ble rfl) (fun r h9 hq => ?_) (fun ex h9 he hq => ?_)
  · obtain ⟨v, hv, rfl, rfl⟩ := hq
    rcases H with ⟨v2, hv2, rfl⟩ | ⟨_, _, hv2, _⟩
    · obtain rfl : v = v2 := Sum.inl.inj (hv.symm.trans hv2)
      refine ar_i2l dL_sharpen_7 ?_
      refine ar_last (n := 1) dL_sharpen_8 rfl (ok_X rfl) (ib_in (by decide)) ?_
      refine ar_goto 15 dL_sharpen_9 (by decide) ?_
      refine ar_iconst (iI 0) dL_sharpen_15 rfl ?_
      exact ar_iret dL_sharpen_16 rfl rfl ⟨rfl, rfl⟩
    · exact absurd (hv.symm.trans hv2) (fun z => by cases z)
  · obtain ⟨hx, rfl⟩ := hq
    rcases H with ⟨v2, hv2, _⟩ | ⟨e2, k2, hv2, hk, rfl⟩
    · exact absurd (hx.symm.trans hv2) (fun z => by cases z)
    · obtain rfl : ex = e2 := Sum.inr.inj (hx.symm.trans hv2)
      match ex, he, hk with
      | 0, _, hk => cases hk
      | 1, _, hk =>
        cases hk
        refine ⟨12, ⟨[], (0, 9, 12, 19), [], rfl, (fun z hz => by cases hz), by decide, by decide, rfl, by decide, am_lk1, am_dc 1⟩, fun q9 => ?_⟩
        refine ar_astoreV_n (i := 3) dL_sharpen_12 rfl (ble rfl) (ble rfl) trivial rfl ?_
        refine ar_iconst (iI 1) dL_sharpen_13 rfl ?_
        exact ar_iret dL_sharpen_14 rfl rfl ⟨rfl, rfl⟩
      | 2, _, hk => cases hk
      | n + 3, he, _ => exact absurd he (by omega)
noncomputable def f_L_setMargin (x1 : Int32) (h : am_H) : Option (Int32 × am_H) := lw_ret (f_X11_setMargin x1 h) (fun e => match e with | 1 => some (iI 1) | _ => none)
theorem mc_L_setMargin : am_cw yL_setMargin cL_setMargin 4 (some .int) [(0, 9, 12, 19)] 3 := ⟨by decide +kernel, by decide +kernel, by decide +kernel, by decide, by decide, by decide +kernel⟩
theorem c_L_setMargin {x1 : Int32} {h : am_H} {a : Int32 × am_H} (e : f_L_setMargin x1 h = some a) : am_MW yL_setMargin cL_setMargin 4 (some .int) [(0, 9, 12, 19)] 9 153 [am_r (.inl 1) 0, am_i x1, am_r (.inl 1) 18] h (fun r h9 => r = some (am_i a.1) ∧ h9 = a.2) := by
  refine am_MW.of (A := [some (am_r (.inl 1) 0), some (am_i x1), some (am_r (.inl 1) 18), none]) (by decide +kernel) rfl (ble rfl) ?_
  obtain ⟨q, e1, H⟩ := lw_ret_v e
  refine rl_a2 dL_setMargin_0 ?_
  refine ar_iconst (iI (0)) dL_setMargin_1 rfl ?_
  refine rl_a0 dL_setMargin_2 ?_
  refine rl_i1 dL_setMargin_3 ?_
  refine ar_callX (As := [am_i x1]) dL_setMargin_4 ml_L_88 mc_X11_setMargin (c_X11_setMargin e1) rfl rfl rfl (ok_X rfl) rfl (ble rfl) (ble rfl) (ble rfl) (ble rfl) (ble rfl) (fun r h9 hq => ?_) (fun ex h9 he hq => ?_)
  · obtain ⟨v, hv, rfl, rfl⟩ := hq
    rcases H with ⟨v2, hv2, rfl⟩ | ⟨_, _, hv2, _⟩
    · obtain rfl : v = v2 := Sum.inl.inj (hv.symm.trans hv2)
      refine ar_i2l dL_setMargin_7 ?_
      refine ar_last (n := 1) dL_setMargin_8 rfl (ok_X rfl) (ib_in (by decide)) ?_
      refine ar_goto 15 dL_setMargin_9 (by decide) ?_
      refine ar_iconst (iI 0) dL_setMargin_15 rfl ?_
      exact ar_iret dL_setMargin_16 rfl rfl ⟨rfl, rfl⟩
    · exact absurd (hv.symm.trans hv2) (fun z => by cases z)
  · obtain ⟨hx, rfl⟩ := hq
    rcases H with ⟨v2, hv2, _⟩ | ⟨e2, k2, hv2, hk, rfl⟩
    · exact absurd (hx.symm.trans hv2) (fun z => by cases z)
    · obtain rfl : ex = e2 := Sum.inr.inj (hx.symm.trans hv2)
      match ex, he, hk with
      | 0, _, hk => cases hk
      | 1, _, hk =>
        cases hk
        refine ⟨12, ⟨[], (0, 9, 12, 19), [], rfl, (fun z hz => by cases hz), by decide, by decide, rfl, by decide, am_lk1, am_dc 1⟩, fun q9 => ?_⟩
        refine ar_astoreV_n (i := 3) dL_setMargin_12 rfl (ble rfl) (ble rfl) trivial rfl ?_
        refine ar_iconst (iI 1) dL_setMargin_13 rfl ?_
        exact ar_iret dL_setMargin_14 rfl rfl ⟨rfl, rfl⟩
      | 2, _, hk => cases hk
      | n + 3, he, _ => exact absurd he (by omega)
noncomputable def f_L_setRadius (x1 x2 : Int32) (h : am_H) : Option (Int32 × am_H) := lw_ret (f_X11_setRadius x1 x2 h) (fun e => match e with | 1 => some (iI 2) | 2 => some (iI 1) | _ => none)
theorem mc_L_setRadius : am_cw yL_setRadius cL_setRadius 5 (some .int) [(0, 10, 13, 35), (0, 10, 17, 19)] 4 := ⟨by decide +kernel, by decide +kernel, by decide +kernel, by decide, by decide, by decide +kernel⟩
theorem c_L_setRadius {x1 x2 : Int32} {h : am_H} {a : Int32 × am_H} (e : f_L_setRadius x1 x2 h = some a) : am_MW yL_setRadius cL_setRadius 5 (some .int) [(0, 10, 13, 35), (0, 10, 17, 19)] 9 154 [am_r (.inl 1) 0, am_i x1, am_i x2, am_r (.inl 1) 18] h (fun r h9 => r = some (am_i a.1) ∧ h9 = a.2) := by
  refine am_MW.of (A := [some (am_r (.inl 1) 0), some (am_i x1), some (am_i x2), some (am_r (.inl 1) 18), none]) (by decide +kernel) rfl (ble rfl) ?_
  obtain ⟨q, e1, H⟩ := lw_ret_v e
  refine rl_a3 dL_setRadius_0 ?_
  refine ar_iconst (iI (0)) dL_setRadius_1 rfl ?_
  refine rl_a0 dL_setRadius_2 ?_
  refine rl_i1 dL_setRadius_3 ?_
  refine rl_i2 dL_setRadius_4 ?_
  refine ar_callX (As := [am_i x1, am_i x2]) dL_setRadius_5 ml_L_91 mc_X11_setRadius (c_X11_setRadius e1) rfl rfl rfl (ok_X rfl) rfl (ble rfl) (ble rfl) (ble rfl) (ble rfl) (ble rfl) (fun r h9 hq => ?_) (fun ex h9 he hq => ?_)
  · obtain ⟨v, hv, rfl, rfl⟩ := hq
    rcases H with ⟨v2, hv2, rfl⟩ | ⟨_, _, hv2, _⟩
    · obtain rfl : v = v2 := Sum.inl.inj (hv.symm.trans hv2)
      refine ar_i2l dL_setRadius_8 ?_
      refine ar_last (n := 1) dL_setRadius_9 rfl (ok_X rfl) (ib_in (by decide)) ?_
      refine ar_goto 21 dL_setRadius_10 (by decide) ?_
      refine ar_iconst (iI 0) dL_setRadius_21 rfl ?_
      exact ar_iret dL_setRadius_22 rfl rfl ⟨rfl, rfl⟩
    · exact absurd (hv.symm.trans hv2) (fun z => by cases z)
  · obtain ⟨hx, rfl⟩ := hq
    rcases H with ⟨v2, hv2, _⟩ | ⟨e2, k2, hv2, hk, rfl⟩
    · exact absurd (hx.symm.trans hv2) (fun z => by cases z)
    · obtain rfl : ex = e2 := Sum.inr.inj (hx.symm.trans hv2)
      match ex, he, hk with
      | 0, _, hk => cases hk
      | 1, _, hk =>
        cases hk
        refine ⟨17, ⟨[(0, 10, 13, 35)], (0, 10, 17, 19), [], rfl, (fun z hz => by rcases List.mem_singleton.mp hz with rfl; exact ⟨by decide, 2, by decide, by decide, am_lk2⟩), by decide, by decide, rfl, by decide, am_lk1, am_dc 1⟩, fun q9 => ?_⟩
        refine ar_astoreV (i := 4) dL_setRadius_17 (ble rfl) (ble rfl) trivial rfl ?_
        refine ar_iconst (iI 2) dL_setRadius_19 rfl ?_
        exact ar_iret dL_setRadius_20 rfl rfl ⟨rfl, rfl⟩
      | 2, _, hk =>
        cases hk
        refine ⟨13, ⟨[], (0, 10, 13, 35), [(0, 10, 17, 19)], rfl, (fun z hz => by cases hz), by decide, by decide, rfl, by decide, am_lk2, am_dc 2⟩, fun q9 => ?_⟩
        refine ar_astoreV (i := 4) dL_setRadius_13 (ble rfl) (ble rfl) trivial rfl ?_
        refine ar_iconst (iI 1) dL_setRadius_15 rfl ?_
        exact ar_iret dL_setRadius_16 rfl rfl ⟨rfl, rfl⟩
      | n + 3, he, _ => exact absurd he (by omega)
noncomputable def f_L_setWidth (x1 x2 : Int32) (h : am_H) : Option (Int32 × am_H) := lw_ret (f_X11_setWidth x1 x2 h) (fun e => match e with | 1 => some (iI 1) | _ => none)
theorem mc_L_setWidth : am_cw yL_setWidth cL_setWidth 5 (some .int) [(0, 10, 13, 19)] 4 := ⟨by decide +kernel, by decide +kernel, by decide +kernel, by decide, by decide, by decide +kernel⟩
theorem c_L_setWidth {x1 x2 : Int32} {h : am_H} {a : Int32 × am_H} (e : f_L_setWidth x1 x2 h = some a) : am_MW yL_setWidth cL_setWidth 5 (some .int) [(0, 10, 13, 19)] 9 154 [am_r (.inl 1) 0, am_i x1, am_i x2, am_r (.inl 1) 18] h (fun r h9 => r = some (am_i a.1) ∧ h9 = a.2) := by
  refine am_MW.of (A := [some (am_r (.inl 1) 0), some (am_i x1), some (am_i x2), some (am_r (.inl 1) 18), none]) (by decide +kernel) rfl (ble rfl) ?_
  obtain ⟨q, e1, H⟩ := lw_ret_v e
  refine rl_a3 dL_setWidth_0 ?_
  refine ar_iconst (iI (0)) dL_setWidth_1 rfl ?_
  refine rl_a0 dL_setWidth_2 ?_
  refine rl_i1 dL_setWidth_3 ?_
  refine rl_i2 dL_setWidth_4 ?_
  refine ar_callX (As := [am_i x1, am_i x2]) dL_setWidth_5 ml_L_94 mc_X11_setWidth (c_X11_setWidth e1) rfl rfl rfl (ok_X rfl) rfl (ble rfl) (ble rfl) (ble rfl) (ble rfl) (ble rfl) (fun r h9 hq => ?_) (fun ex h9 he hq => ?_)
  · obtain ⟨v, hv, rfl, rfl⟩ := hq
    rcases H with ⟨v2, hv2, rfl⟩ | ⟨_, _, hv2, _⟩
    · obtain rfl : v = v2 := Sum.inl.inj (hv.symm.trans hv2)
      refine ar_i2l dL_setWidth_8 ?_
      refine ar_last (n := 1) dL_setWidth_9 rfl (ok_X rfl) (ib_in (by decide)) ?_
      refine ar_goto 17 dL_setWidth_10 (by decide) ?_
      refine ar_iconst (iI 0) dL_setWidth_17 rfl ?_
      exact ar_iret dL_setWidth_18 rfl rfl ⟨rfl, rfl⟩
    · exact absurd (hv.symm.trans hv2) (fun z => by cases z)
  · obtain ⟨hx, rfl⟩ := hq
    rcases H with ⟨v2, hv2, _⟩ | ⟨e2, k2, hv2, hk, rfl⟩
    · exact absurd (hx.symm.trans hv2) (fun z => by cases z)
    · obtain rfl : ex = e2 := Sum.inr.inj (hx.symm.trans hv2)
      match ex, he, hk with
      | 0, _, hk => cases hk
      | 1, _, hk =>
        cases hk
        refine ⟨13, ⟨[], (0, 10, 13, 19), [], rfl, (fun z hz => by cases hz), by decide, by decide, rfl, by decide, am_lk1, am_dc 1⟩, fun q9 => ?_⟩
        refine ar_astoreV (i := 4) dL_setWidth_13 (ble rfl) (ble rfl) trivial rfl ?_
        refine ar_iconst (iI 1) dL_setWidth_15 rfl ?_
        exact ar_iret dL_setWidth_16 rfl rfl ⟨rfl, rfl⟩
      | 2, _, hk => cases hk
      | n + 3, he, _ => exact absurd he (by omega)
noncomputable def f_L_reportByte (x1 : Int32) (h : am_H) : Option (Int32 × am_H) := lw_ret ((f_X11_reportByte x1 h).map (fun a => (a, h))) (fun e => match e with | 2 => some (iI 1) | _ => none)
theorem mc_L_reportByte : am_cw yL_reportByte cL_reportByte 4 (some .int) [(0, 9, 12, 35)] 3 := ⟨by decide +kernel, by decide +kernel, by decide +kernel, by decide, by decide, by decide +kernel⟩
theorem c_L_reportByte {x1 : Int32} {h : am_H} {a : Int32 × am_H} (e : f_L_reportByte x1 h = some a) : am_MW yL_reportByte cL_reportByte 4 (some .int) [(0, 9, 12, 35)] 9 152 [am_r (.inl 1) 0, am_i x1, am_r (.inl 1) 18] h (fun r h9 => r = some (am_i a.1) ∧ h9 = a.2) := by
  refine am_MW.of (A := [some (am_r (.inl 1) 0), some (am_i x1), some (am_r (.inl 1) 18), none]) (by decide +kernel) rfl (ble rfl) ?_
  obtain ⟨q, e1, H⟩ := lw_ret_v e
  obtain ⟨q0, e0, rfl⟩ := Option.map_eq_some_iff.mp e1
  refine rl_a2 dL_reportByte_0 ?_
  refine ar_iconst (iI (0)) dL_reportByte_1 rfl ?_
  refine rl_a0 dL_reportByte_2 ?_
  refine rl_i1 dL_reportByte_3 ?_
  refine ar_callX (As := [am_i x1]) dL_reportByte_4 ml_L_97 mc_X11_reportByte (c_X11_reportByte e0) rfl rfl rfl (ok_X rfl) rfl (ble rfl) (ble rfl) (ble rfl) (ble rfl) (ble rfl) (fun r h9 hq => ?_) (fun ex h9 he hq => ?_)
  · obtain ⟨v, hv, rfl, rfl⟩ := hq
    rcases H with ⟨v2, hv2, rfl⟩ | ⟨_, _, hv2, _⟩
    · obtain rfl : v = v2 := Sum.inl.inj (hv.symm.trans hv2)
      refine ar_i2l dL_reportByte_7 ?_
      refine ar_last (n := 1) dL_reportByte_8 rfl (ok_X rfl) (ib_in (by decide)) ?_
      refine ar_goto 15 dL_reportByte_9 (by decide) ?_
      refine ar_iconst (iI 0) dL_reportByte_15 rfl ?_
      exact ar_iret dL_reportByte_16 rfl rfl ⟨rfl, rfl⟩
    · exact absurd (hv.symm.trans hv2) (fun z => by cases z)
  · obtain ⟨hx, rfl⟩ := hq
    rcases H with ⟨v2, hv2, _⟩ | ⟨e2, k2, hv2, hk, rfl⟩
    · exact absurd (hx.symm.trans hv2) (fun z => by cases z)
    · obtain rfl : ex = e2 := Sum.inr.inj (hx.symm.trans hv2)
      match ex, he, hk with
      | 0, _, hk => cases hk
      | 1, _, hk => cases hk
      | 2, _, hk =>
        cases hk
        refine ⟨12, ⟨[], (0, 9, 12, 35), [], rfl, (fun z hz => by cases hz), by decide, by decide, rfl, by decide, am_lk2, am_dc 2⟩, fun q9 => ?_⟩
        refine ar_astoreV_n (i := 3) dL_reportByte_12 rfl (ble rfl) (ble rfl) trivial rfl ?_
        refine ar_iconst (iI 1) dL_reportByte_13 rfl ?_
        exact ar_iret dL_reportByte_14 rfl rfl ⟨rfl, rfl⟩
      | n + 3, he, _ => exact absurd he (by omega)
noncomputable def f_L_restore (h : am_H) : Option (Int32 × am_H) := lw_ret (f_X11_restore h) (fun e => match e with | 0 => some (iI 1) | _ => none)
theorem mc_L_restore : am_cw yL_restore cL_restore 3 (some .int) [(0, 8, 11, 13)] 2 := ⟨by decide +kernel, by decide +kernel, by decide +kernel, by decide, by decide, by decide +kernel⟩
theorem c_L_restore {h : am_H} {a : Int32 × am_H} (e : f_L_restore h = some a) : am_MW yL_restore cL_restore 3 (some .int) [(0, 8, 11, 13)] 9 151 [am_r (.inl 1) 0, am_r (.inl 1) 18] h (fun r h9 => r = some (am_i a.1) ∧ h9 = a.2) := by
  refine am_MW.of (A := [some (am_r (.inl 1) 0), some (am_r (.inl 1) 18), none]) (by decide +kernel) rfl (ble rfl) ?_
  obtain ⟨q, e1, H⟩ := lw_ret_v e
  refine rl_a1 dL_restore_0 ?_
  refine ar_iconst (iI (0)) dL_restore_1 rfl ?_
  refine rl_a0 dL_restore_2 ?_
  refine ar_callX (As := []) dL_restore_3 ml_L_100 mc_X11_restore (c_X11_restore e1) rfl rfl rfl (ok_X rfl) rfl (ble rfl) (ble rfl) (ble rfl) (ble rfl) (ble rfl) (fun r h9 hq => ?_) (fun ex h9 he hq => ?_)
  · obtain ⟨v, hv, rfl, rfl⟩ := hq
    rcases H with ⟨v2, hv2, rfl⟩ | ⟨_, _, hv2, _⟩
    · obtain rfl : v = v2 := Sum.inl.inj (hv.symm.trans hv2)
      refine ar_i2l dL_restore_6 ?_
      refine ar_last (n := 1) dL_restore_7 rfl (ok_X rfl) (ib_in (by decide)) ?_
      refine ar_goto 14 dL_restore_8 (by decide) ?_
      refine ar_iconst (iI 0) dL_restore_14 rfl ?_
      exact ar_iret dL_restore_15 rfl rfl ⟨rfl, rfl⟩
    · exact absurd (hv.symm.trans hv2) (fun z => by cases z)
  · obtain ⟨hx, rfl⟩ := hq
    rcases H with ⟨v2, hv2, _⟩ | ⟨e2, k2, hv2, hk, rfl⟩
    · exact absurd (hx.symm.trans hv2) (fun z => by cases z)
    · obtain rfl : ex = e2 := Sum.inr.inj (hx.symm.trans hv2)
      match ex, he, hk with
      | 0, _, hk =>
        cases hk
        refine ⟨11, ⟨[], (0, 8, 11, 13), [], rfl, (fun z hz => by cases hz), by decide, by decide, rfl, by decide, am_lk0, am_dc 0⟩, fun q9 => ?_⟩
        refine ar_astoreV_n (i := 2) dL_restore_11 rfl (ble rfl) (ble rfl) trivial rfl ?_
        refine ar_iconst (iI 1) dL_restore_12 rfl ?_
        exact ar_iret dL_restore_13 rfl rfl ⟨rfl, rfl⟩
      | 1, _, hk => cases hk
      | 2, _, hk => cases hk
      | n + 3, he, _ => exact absurd he (by omega)
