noncomputable def f_X11_feed (x1 : Int32) (x2 : Int32) (x3 : Int32) (x4 : Int32) (x5 : Int32) (h : am_H) : Option ((Int32 ⊕ Nat) × am_H) :=
  if ((h.1 (.inl 1) 8 1) + (iI (20))) ≤ (iI (500)) then ((f_X10_append x1 h).bind (fun a1 => (f_X10_append x2 a1).bind (fun a2 => (f_X10_append x3 a2).bind (fun a3 => (f_X10_append x4 a3).bind (fun a4 => (f_X10_append x5 a4).bind (fun a5 => some ((.inl (a5.1 (.inl 1) 8 1), a5)))))))) else (some ((.inr 0, h)))
theorem c_X11_feed {x1 : Int32} {x2 : Int32} {x3 : Int32} {x4 : Int32} {x5 : Int32} {h : am_H} {v : Int32} {h1 : am_H} (e : f_X11_feed x1 x2 x3 x4 x5 h = some (.inl v, h1)) : am_Mi yX11_feed cX11_feed 6 (some .int) 1 22 [am_r (.inl 1) 0, am_i x1, am_i x2, am_i x3, am_i x4, am_i x5] h v h1 := by
  refine am_M.ofi (A := [some (am_r (.inl 1) 0), some (am_i x1), some (am_i x2), some (am_i x3), some (am_i x4), some (am_i x5)]) (by decide +kernel) rfl (ble rfl) (fun Q hQ => ?_)
  have H : wp (f_X11_feed x1 x2 x3 x4 x5 h) (fun a => xL Q a.2 a.1) := ⟨_, e, hQ⟩
  unfold f_X11_feed at H
  refine rl_a0 dX11_feed_0 ?_
  refine rg_R (.inl 1) 8 dX11_feed_1 fg_X11_46 rfl rfl rfl (ok_X rfl) ?_
  refine ar_getI dX11_feed_4 fg_X11_71 rfl rfl (ok_X rfl) ?_
  refine ar_bipush (iI (20)) dX11_feed_7 rfl ?_
  refine ar_iadd dX11_feed_9 ?_
  refine ar_sipush (iI (500)) dX11_feed_10 rfl ?_
  refine ar_ic_le 26 dX11_feed_13 (by decide) (fun c1 => ?_) (fun c1 => ?_)
  · replace H := wp_t c1 H
    refine rl_a0 dX11_feed_26 ?_
    refine rg_R (.inl 1) 8 dX11_feed_27 fg_X11_46 rfl rfl rfl (ok_X rfl) ?_
    refine rl_i1 dX11_feed_30 ?_
    obtain ⟨a1, e1, H⟩ := wp_b H
    refine rc_V1v dX11_feed_31 ml_X11_82 mc_X10_append (c_X10_append e1) rfl rfl rfl (ok_X rfl) rfl rfl rfl ?_
    refine rl_a0 dX11_feed_34 ?_
    refine rg_R (.inl 1) 8 dX11_feed_35 fg_X11_46 rfl rfl rfl (ok_X rfl) ?_
    refine rl_i2 dX11_feed_38 ?_
    obtain ⟨a2, e2, H⟩ := wp_b H
    refine rc_V1v dX11_feed_39 ml_X11_82 mc_X10_append (c_X10_append e2) rfl rfl rfl (ok_X rfl) rfl rfl rfl ?_
    refine rl_a0 dX11_feed_42 ?_
    refine rg_R (.inl 1) 8 dX11_feed_43 fg_X11_46 rfl rfl rfl (ok_X rfl) ?_
    refine rl_i3 dX11_feed_46 ?_
    obtain ⟨a3, e3, H⟩ := wp_b H
    refine rc_V1v dX11_feed_47 ml_X11_82 mc_X10_append (c_X10_append e3) rfl rfl rfl (ok_X rfl) rfl rfl rfl ?_
    refine rl_a0 dX11_feed_50 ?_
    refine rg_R (.inl 1) 8 dX11_feed_51 fg_X11_46 rfl rfl rfl (ok_X rfl) ?_
    refine rl_i4 dX11_feed_54 ?_
    obtain ⟨a4, e4, H⟩ := wp_b H
    refine rc_V1v dX11_feed_56 ml_X11_82 mc_X10_append (c_X10_append e4) rfl rfl rfl (ok_X rfl) rfl rfl rfl ?_
    refine rl_a0 dX11_feed_59 ?_
    refine rg_R (.inl 1) 8 dX11_feed_60 fg_X11_46 rfl rfl rfl (ok_X rfl) ?_
    refine rl_i5 dX11_feed_63 ?_
    obtain ⟨a5, e5, H⟩ := wp_b H
    refine rc_V1v dX11_feed_65 ml_X11_82 mc_X10_append (c_X10_append e5) rfl rfl rfl (ok_X rfl) rfl rfl rfl ?_
    refine rl_a0 dX11_feed_68 ?_
    refine rg_R (.inl 1) 8 dX11_feed_69 fg_X11_46 rfl rfl rfl (ok_X rfl) ?_
    refine ar_getI dX11_feed_72 fg_X11_71 rfl rfl (ok_X rfl) ?_
    replace H := wp_s H
    exact ar_iret dX11_feed_75 rfl rfl H
  · replace H := wp_f c1 H
    replace H := wp_s H
    exact H.elim
noncomputable def f_X11_truncate (x1 : Int32) (h : am_H) : Option ((Int32 ⊕ Nat) × am_H) :=
  (f_X11_isWithin x1 (iI (0)) (h.1 (.inl 1) 8 1)).bind (fun a1 => if a1 = 0 then (some ((.inr 1, h))) else (am_lt (am_u h (.inl 1) 8 1 x1) (fun h1 => some ((.inl x1, h1)))))
theorem c_X11_truncate {x1 : Int32} {h : am_H} {v : Int32} {h1 : am_H} (e : f_X11_truncate x1 h = some (.inl v, h1)) : am_Mi yX11_truncate cX11_truncate 2 (some .int) 1 22 [am_r (.inl 1) 0, am_i x1] h v h1 := by
  refine am_M.ofi (A := [some (am_r (.inl 1) 0), some (am_i x1)]) (by decide +kernel) rfl (ble rfl) (fun Q hQ => ?_)
  have H : wp (f_X11_truncate x1 h) (fun a => xL Q a.2 a.1) := ⟨_, e, hQ⟩
  unfold f_X11_truncate at H
  refine rl_i1 dX11_truncate_0 ?_
  refine ar_iconst (iI (0)) dX11_truncate_1 rfl ?_
  refine rl_a0 dX11_truncate_2 ?_
  refine rg_R (.inl 1) 8 dX11_truncate_3 fg_X11_46 rfl rfl rfl (ok_X rfl) ?_
  refine ar_getI dX11_truncate_6 fg_X11_71 rfl rfl (ok_X rfl) ?_
  obtain ⟨a1, e1, H⟩ := wp_b H
  refine rc_S3i dX11_truncate_9 ml_X11_86 mc_X11_isWithin (c_X11_isWithin e1) rfl rfl rfl ?_
  refine ar_if_ne 25 dX11_truncate_12 (by decide) (fun c1 => ?_) (fun c1 => ?_)
  · replace H := wp_f c1 H
    refine rl_a0 dX11_truncate_25 ?_
    refine rg_R (.inl 1) 8 dX11_truncate_26 fg_X11_46 rfl rfl rfl (ok_X rfl) ?_
    refine rl_i1 dX11_truncate_29 ?_
    refine ar_putI dX11_truncate_30 fg_X11_71 rfl rfl (ok_X rfl) rfl rfl ?_
    replace H := wp_l H
    generalize am_u h (.inl 1) 8 1 x1 = h1 at H ⊢
    refine rl_i1 dX11_truncate_33 ?_
    replace H := wp_s H
    exact ar_iret dX11_truncate_34 rfl rfl H
  · replace H := wp_t c1 H
    replace H := wp_s H
    exact H.elim
noncomputable def f_X11_readText  (h : am_H) : Option ((Int32 ⊕ Nat) × am_H) :=
  (f_X9_readInto 1 h).bind (fun a1 => am_lt (am_u a1.2 (.inl 1) 8 1 (iI (0))) (fun h1 => if a1.1 = 0 then (some ((.inr 1, h1))) else ((f_X5_copyFrom 0 1 h1).bind (fun a2 => am_lt (am_u a2 (.inl 1) 0 6 (iI (0))) (fun h2 => some ((.inl (h2.1 (.inr 0) 6 4), h2)))))))
theorem c_X11_readText  {h : am_H} {v : Int32} {h1 : am_H} (e : f_X11_readText h = some (.inl v, h1)) : am_Mi yX11_readText cX11_readText 2 (some .int) 9 200 [am_r (.inl 1) 0] h v h1 := by
  refine am_M.ofi (A := [some (am_r (.inl 1) 0), none]) (by decide +kernel) rfl (ble rfl) (fun Q hQ => ?_)
  have H : wp (f_X11_readText h) (fun a => xL Q a.2 a.1) := ⟨_, e, hQ⟩
  unfold f_X11_readText at H
  refine rl_a0 dX11_readText_0 ?_
  refine rg_R (.inl 1) 10 dX11_readText_1 fg_X11_53 rfl rfl rfl (ok_X rfl) ?_
  refine rl_a0 dX11_readText_4 ?_
  refine rg_R (.inr 1) 0 dX11_readText_5 fg_X11_16 rfl rfl rfl (ok_X rfl) ?_
  refine rl_a0 dX11_readText_8 ?_
  refine rg_R (.inl 1) 8 dX11_readText_9 fg_X11_46 rfl rfl rfl (ok_X rfl) ?_
  obtain ⟨a1, e1, H⟩ := wp_b H
  refine rc_V2i dX11_readText_12 ml_X11_95 mc_X9_readInto (c_X9_readInto (by decide) e1) rfl rfl rfl (ok_X rfl) rfl rfl rfl ?_
  refine rs_i1 dX11_readText_15 rfl trivial ?_
  refine rl_a0 dX11_readText_16 ?_
  refine rg_R (.inl 1) 8 dX11_readText_17 fg_X11_46 rfl rfl rfl (ok_X rfl) ?_
  refine ar_iconst (iI (0)) dX11_readText_20 rfl ?_
  refine ar_putI dX11_readText_21 fg_X11_71 rfl rfl (ok_X rfl) rfl rfl ?_
  replace H := wp_l H
  generalize am_u a1.2 (.inl 1) 8 1 (iI (0)) = h1 at H ⊢
  refine rl_i1 dX11_readText_24 ?_
  refine ar_if_ne 38 dX11_readText_25 (by decide) (fun c1 => ?_) (fun c1 => ?_)
  · replace H := wp_f c1 H
    refine rl_a0 dX11_readText_38 ?_
    refine rg_R (.inr 0) 0 dX11_readText_39 fg_X11_12 rfl rfl rfl (ok_X rfl) ?_
    refine rl_a0 dX11_readText_42 ?_
    refine rg_R (.inr 1) 0 dX11_readText_43 fg_X11_16 rfl rfl rfl (ok_X rfl) ?_
    obtain ⟨a2, e2, H⟩ := wp_b H
    refine rc_V1v dX11_readText_46 ml_X11_101 mc_X5_copyFrom (c_X5_copyFrom (by decide) (by decide) e2) rfl rfl rfl (ok_P (by decide) rfl) rfl rfl rfl ?_
    refine rl_a0 dX11_readText_49 ?_
    refine ar_iconst (iI (0)) dX11_readText_50 rfl ?_
    refine ar_putI dX11_readText_51 fg_X11_105 rfl rfl (ok_X rfl) rfl rfl ?_
    replace H := wp_l H
    generalize am_u a2 (.inl 1) 0 6 (iI (0)) = h2 at H ⊢
    refine rl_a0 dX11_readText_54 ?_
    refine rg_R (.inr 0) 0 dX11_readText_55 fg_X11_12 rfl rfl rfl (ok_X rfl) ?_
    refine rg_R (.inr 0) 6 dX11_readText_58 fg_X11_108 rfl rfl rfl (ok_P (by decide) rfl) ?_
    refine ar_getI dX11_readText_61 fg_X11_112 rfl rfl (ok_P (by decide) rfl) ?_
    replace H := wp_s H
    exact ar_iret dX11_readText_64 rfl rfl H
  · replace H := wp_t c1 H
    replace H := wp_s H
    exact H.elim
noncomputable def f_X11_setting (x1 : Int32) (h : am_H) : Option ((Int32 ⊕ Nat) × am_H) :=
  if x1.toInt = 0 then (some ((.inl (h.1 (.inr 0) 1 4), h))) else (if x1.toInt = 1 then (some ((.inl (h.1 (.inr 0) 6 4), h))) else (if x1.toInt = 2 then (some ((.inl (h.1 (.inr 0) 11 4), h))) else (if x1.toInt = 3 then ((f_X0_wholeTurn 0 h).bind (fun a1 => some ((.inl a1, h)))) else (if x1.toInt = 4 then ((f_X0_wholeParts 0 h).bind (fun a1 => some ((.inl a1, h)))) else (if x1.toInt = 5 then (some ((.inl (h.1 (.inr 0) 16 0), h))) else (if x1.toInt = 6 then (some ((.inl (h.1 (.inr 0) 0 5), h))) else (if x1.toInt = 7 then (some ((.inl (h.1 (.inr 0) 17 2), h))) else (if x1.toInt = 8 then ((f_X4_engravedLetters 0 h).bind (fun a1 => some ((.inl a1, h)))) else (if x1.toInt = 9 then ((f_X11_spoiledLetters h).bind (fun a1 => some ((.inl a1.1, a1.2)))) else (if x1.toInt = 10 then (some ((.inl (h.1 (.inr 0) 16 1), h))) else (if x1.toInt = 11 then (some ((.inl (h.1 (.inr 0) 16 2), h))) else (if x1.toInt = 12 then (some ((.inl (h.1 (.inr 0) 16 3), h))) else (if x1.toInt = 13 then (some ((.inl (h.1 (.inl 1) 0 6), h))) else (some ((.inr 1, h))))))))))))))))
theorem c_X11_setting {x1 : Int32} {h : am_H} {v : Int32} {h1 : am_H} (e : f_X11_setting x1 h = some (.inl v, h1)) : am_Mi yX11_setting cX11_setting 2 (some .int) 5 115 [am_r (.inl 1) 0, am_i x1] h v h1 := by
  refine am_M.ofi (A := [some (am_r (.inl 1) 0), some (am_i x1)]) (by decide +kernel) rfl (ble rfl) (fun Q hQ => ?_)
  have H : wp (f_X11_setting x1 h) (fun a => xL Q a.2 a.1) := ⟨_, e, hQ⟩
  unfold f_X11_setting at H
  refine rl_i1 dX11_setting_0 ?_
  rcases Decidable.em (x1.toInt = 0) with c1_0 | c1_0
  · replace H := wp_t c1_0 H
    refine ar_swIn 72 dX11_setting_1 (by omega) (by omega) (by rw [c1_0]; rfl) (by decide) ?_
    refine rl_a0 dX11_setting_72 ?_
    refine rg_R (.inr 0) 0 dX11_setting_73 fg_X11_12 rfl rfl rfl (ok_X rfl) ?_
    refine rg_R (.inr 0) 1 dX11_setting_76 fg_X11_136 rfl rfl rfl (ok_P (by decide) rfl) ?_
    refine ar_getI dX11_setting_79 fg_X11_140 rfl rfl (ok_P (by decide) rfl) ?_
    replace H := wp_s H
    exact ar_iret dX11_setting_82 rfl rfl H
  replace H := wp_f c1_0 H
  rcases Decidable.em (x1.toInt = 1) with c1_1 | c1_1
  · replace H := wp_t c1_1 H
    refine ar_swIn 83 dX11_setting_1 (by omega) (by omega) (by rw [c1_1]; rfl) (by decide) ?_
    refine rl_a0 dX11_setting_83 ?_
    refine rg_R (.inr 0) 0 dX11_setting_84 fg_X11_12 rfl rfl rfl (ok_X rfl) ?_
    refine rg_R (.inr 0) 6 dX11_setting_87 fg_X11_108 rfl rfl rfl (ok_P (by decide) rfl) ?_
    refine ar_getI dX11_setting_90 fg_X11_112 rfl rfl (ok_P (by decide) rfl) ?_
    replace H := wp_s H
    exact ar_iret dX11_setting_93 rfl rfl H
  replace H := wp_f c1_1 H
  rcases Decidable.em (x1.toInt = 2) with c1_2 | c1_2
  · replace H := wp_t c1_2 H
    refine ar_swIn 94 dX11_setting_1 (by omega) (by omega) (by rw [c1_2]; rfl) (by decide) ?_
    refine rl_a0 dX11_setting_94 ?_
    refine rg_R (.inr 0) 0 dX11_setting_95 fg_X11_12 rfl rfl rfl (ok_X rfl) ?_
    refine rg_R (.inr 0) 11 dX11_setting_98 fg_X11_145 rfl rfl rfl (ok_P (by decide) rfl) ?_
    refine ar_getI dX11_setting_101 fg_X11_149 rfl rfl (ok_P (by decide) rfl) ?_
    replace H := wp_s H
    exact ar_iret dX11_setting_104 rfl rfl H
  replace H := wp_f c1_2 H
  rcases Decidable.em (x1.toInt = 3) with c1_3 | c1_3
  · replace H := wp_t c1_3 H
    refine ar_swIn 105 dX11_setting_1 (by omega) (by omega) (by rw [c1_3]; rfl) (by decide) ?_
    refine rl_a0 dX11_setting_105 ?_
    refine rg_R (.inr 0) 0 dX11_setting_106 fg_X11_12 rfl rfl rfl (ok_X rfl) ?_
    refine rg_R (.inr 0) 1 dX11_setting_109 fg_X11_136 rfl rfl rfl (ok_P (by decide) rfl) ?_
    obtain ⟨a1, e1, H⟩ := wp_b H
    refine rc_V0i dX11_setting_112 ml_X11_154 mc_X0_wholeTurn (c_X0_wholeTurn (by decide) e1) rfl rfl rfl (ok_P (by decide) rfl) rfl rfl rfl ?_
    replace H := wp_s H
    exact ar_iret dX11_setting_115 rfl rfl H
  replace H := wp_f c1_3 H
  rcases Decidable.em (x1.toInt = 4) with c1_4 | c1_4
  · replace H := wp_t c1_4 H
    refine ar_swIn 116 dX11_setting_1 (by omega) (by omega) (by rw [c1_4]; rfl) (by decide) ?_
    refine rl_a0 dX11_setting_116 ?_
    refine rg_R (.inr 0) 0 dX11_setting_117 fg_X11_12 rfl rfl rfl (ok_X rfl) ?_
    refine rg_R (.inr 0) 1 dX11_setting_120 fg_X11_136 rfl rfl rfl (ok_P (by decide) rfl) ?_
    obtain ⟨a1, e1, H⟩ := wp_b H
    refine rc_V0i dX11_setting_123 ml_X11_158 mc_X0_wholeParts (c_X0_wholeParts (by decide) e1) rfl rfl rfl (ok_P (by decide) rfl) rfl rfl rfl ?_
    replace H := wp_s H
    exact ar_iret dX11_setting_126 rfl rfl H
  replace H := wp_f c1_4 H
  rcases Decidable.em (x1.toInt = 5) with c1_5 | c1_5
  · replace H := wp_t c1_5 H
    refine ar_swIn 127 dX11_setting_1 (by omega) (by omega) (by rw [c1_5]; rfl) (by decide) ?_
    refine rl_a0 dX11_setting_127 ?_
    refine rg_R (.inr 0) 0 dX11_setting_128 fg_X11_12 rfl rfl rfl (ok_X rfl) ?_
    refine rg_R (.inr 0) 16 dX11_setting_131 fg_X11_161 rfl rfl rfl (ok_P (by decide) rfl) ?_
    refine ar_getI dX11_setting_134 fg_X11_164 rfl rfl (ok_P (by decide) rfl) ?_
    replace H := wp_s H
    exact ar_iret dX11_setting_137 rfl rfl H
  replace H := wp_f c1_5 H
  rcases Decidable.em (x1.toInt = 6) with c1_6 | c1_6
  · replace H := wp_t c1_6 H
    refine ar_swIn 138 dX11_setting_1 (by omega) (by omega) (by rw [c1_6]; rfl) (by decide) ?_
    refine rl_a0 dX11_setting_138 ?_
    refine rg_R (.inr 0) 0 dX11_setting_139 fg_X11_12 rfl rfl rfl (ok_X rfl) ?_
    refine ar_getI dX11_setting_142 fg_X11_167 rfl rfl (ok_P (by decide) rfl) ?_
    replace H := wp_s H
    exact ar_iret dX11_setting_145 rfl rfl H
  replace H := wp_f c1_6 H
  rcases Decidable.em (x1.toInt = 7) with c1_7 | c1_7
  · replace H := wp_t c1_7 H
    refine ar_swIn 146 dX11_setting_1 (by omega) (by omega) (by rw [c1_7]; rfl) (by decide) ?_
    refine rl_a0 dX11_setting_146 ?_
    refine rg_R (.inr 0) 0 dX11_setting_147 fg_X11_12 rfl rfl rfl (ok_X rfl) ?_
    refine rg_R (.inr 0) 17 dX11_setting_150 fg_X11_170 rfl rfl rfl (ok_P (by decide) rfl) ?_
    refine ar_getI dX11_setting_153 fg_X11_174 rfl rfl (ok_P (by decide) rfl) ?_
    replace H := wp_s H
    exact ar_iret dX11_setting_156 rfl rfl H
  replace H := wp_f c1_7 H
  rcases Decidable.em (x1.toInt = 8) with c1_8 | c1_8
  · replace H := wp_t c1_8 H
    refine ar_swIn 157 dX11_setting_1 (by omega) (by omega) (by rw [c1_8]; rfl) (by decide) ?_
    refine rl_a0 dX11_setting_157 ?_
    refine rg_R (.inr 0) 0 dX11_setting_158 fg_X11_12 rfl rfl rfl (ok_X rfl) ?_
    refine rg_R (.inr 0) 6 dX11_setting_161 fg_X11_108 rfl rfl rfl (ok_P (by decide) rfl) ?_
    obtain ⟨a1, e1, H⟩ := wp_b H
    refine rc_V0i dX11_setting_164 ml_X11_177 mc_X4_engravedLetters (c_X4_engravedLetters (by decide) e1) rfl rfl rfl (ok_P (by decide) rfl) rfl rfl rfl ?_
    replace H := wp_s H
    exact ar_iret dX11_setting_167 rfl rfl H
  replace H := wp_f c1_8 H
  rcases Decidable.em (x1.toInt = 9) with c1_9 | c1_9
  · replace H := wp_t c1_9 H
    refine ar_swIn 168 dX11_setting_1 (by omega) (by omega) (by rw [c1_9]; rfl) (by decide) ?_
    refine rl_a0 dX11_setting_168 ?_
    obtain ⟨a1, e1, H⟩ := wp_b H
    refine rc_V0i dX11_setting_169 ml_X11_180 mc_X11_spoiledLetters (c_X11_spoiledLetters e1) rfl rfl rfl (ok_X rfl) rfl rfl rfl ?_
    replace H := wp_s H
    exact ar_iret dX11_setting_172 rfl rfl H
  replace H := wp_f c1_9 H
  rcases Decidable.em (x1.toInt = 10) with c1_10 | c1_10
  · replace H := wp_t c1_10 H
    refine ar_swIn 173 dX11_setting_1 (by omega) (by omega) (by rw [c1_10]; rfl) (by decide) ?_
    refine rl_a0 dX11_setting_173 ?_
    refine rg_R (.inr 0) 0 dX11_setting_174 fg_X11_12 rfl rfl rfl (ok_X rfl) ?_
    refine rg_R (.inr 0) 16 dX11_setting_177 fg_X11_161 rfl rfl rfl (ok_P (by decide) rfl) ?_
    refine ar_getI dX11_setting_180 fg_X11_183 rfl rfl (ok_P (by decide) rfl) ?_
    replace H := wp_s H
    exact ar_iret dX11_setting_183 rfl rfl H
  replace H := wp_f c1_10 H
  rcases Decidable.em (x1.toInt = 11) with c1_11 | c1_11
  · replace H := wp_t c1_11 H
    refine ar_swIn 184 dX11_setting_1 (by omega) (by omega) (by rw [c1_11]; rfl) (by decide) ?_
    refine rl_a0 dX11_setting_184 ?_
    refine rg_R (.inr 0) 0 dX11_setting_185 fg_X11_12 rfl rfl rfl (ok_X rfl) ?_
    refine rg_R (.inr 0) 16 dX11_setting_188 fg_X11_161 rfl rfl rfl (ok_P (by decide) rfl) ?_
    refine ar_getI dX11_setting_191 fg_X11_186 rfl rfl (ok_P (by decide) rfl) ?_
    replace H := wp_s H
    exact ar_iret dX11_setting_194 rfl rfl H
  replace H := wp_f c1_11 H
  rcases Decidable.em (x1.toInt = 12) with c1_12 | c1_12
  · replace H := wp_t c1_12 H
    refine ar_swIn 195 dX11_setting_1 (by omega) (by omega) (by rw [c1_12]; rfl) (by decide) ?_
    refine rl_a0 dX11_setting_195 ?_
    refine rg_R (.inr 0) 0 dX11_setting_196 fg_X11_12 rfl rfl rfl (ok_X rfl) ?_
    refine rg_R (.inr 0) 16 dX11_setting_199 fg_X11_161 rfl rfl rfl (ok_P (by decide) rfl) ?_
    refine ar_getI dX11_setting_202 fg_X11_189 rfl rfl (ok_P (by decide) rfl) ?_
    replace H := wp_s H
    exact ar_iret dX11_setting_205 rfl rfl H
  replace H := wp_f c1_12 H
  rcases Decidable.em (x1.toInt = 13) with c1_13 | c1_13
  · replace H := wp_t c1_13 H
    refine ar_swIn 206 dX11_setting_1 (by omega) (by omega) (by rw [c1_13]; rfl) (by decide) ?_
    refine rl_a0 dX11_setting_206 ?_
    refine ar_getI dX11_setting_207 fg_X11_105 rfl rfl (ok_X rfl) ?_
    replace H := wp_s H
    exact ar_iret dX11_setting_210 rfl rfl H
  replace H := wp_f c1_13 H
  refine ar_swOut 211 dX11_setting_1 (by omega) (by decide) ?_
  replace H := wp_s H
  exact H.elim
noncomputable def f_X11_letter (x1 : Int32) (x2 : Int32) (h : am_H) : Option ((Int32 ⊕ Nat) × am_H) :=
  (f_X5_hasLetter 0 x1 h).bind (fun a1 => if a1 = 0 then (some ((.inr 2, h))) else (if x2.toInt = 0 then (if ib x1 20 then (some ((.inl (h.1 (.inr 0) 7 x1.toNatClampNeg), h))) else none) else (if x2.toInt = 1 then ((f_X4_partsOf 0 x1 h).bind (fun a2 => some ((.inl a2, h)))) else (if x2.toInt = 2 then ((f_X5_centreTurn 0 x1 h).bind (fun a2 => some ((.inl a2, h)))) else (if x2.toInt = 3 then ((f_X5_centreParts 0 x1 h).bind (fun a2 => some ((.inl a2, h)))) else (if x2.toInt = 4 then ((f_X5_leftEdge 0 x1 h).bind (fun a2 => some ((.inl a2, h)))) else (if x2.toInt = 5 then ((f_X5_rightEdge 0 x1 h).bind (fun a2 => some ((.inl a2, h)))) else (if x2.toInt = 6 then ((f_X5_centreTurn 0 x1 h).bind (fun a2 => (f_X0_headingTo 0 a2 h).bind (fun a3 => some ((.inl a3, h))))) else (if x2.toInt = 7 then ((f_X5_arcUnder 0 x1 h).bind (fun a2 => some ((.inl a2, h)))) else (if x2.toInt = 8 then (if ib x1 20 then (if (h.1 (.inr 0) 8 x1.toNatClampNeg) = 0 then (some ((.inl (iI (0)), h))) else (some ((.inl (iI (1)), h)))) else none) else (if x2.toInt = 9 then ((f_X11_isSpoiled x1 h).bind (fun a2 => if a2.1 = 0 then (some ((.inl (iI (0)), a2.2))) else (some ((.inl (iI (1)), a2.2))))) else (if x2.toInt = 10 then ((f_X4_strokesOf 0 x1 h).bind (fun a2 => some ((.inl a2, h)))) else (if x2.toInt = 11 then (if ib x1 20 then (some ((.inl (h.1 (.inr 0) 9 x1.toNatClampNeg), h))) else none) else (if x2.toInt = 12 then ((f_X7_countOf 0 x1 h).bind (fun a2 => some ((.inl a2, h)))) else (some ((.inr 1, h)))))))))))))))))
theorem c_X11_letter {x1 : Int32} {x2 : Int32} {h : am_H} {v : Int32} {h1 : am_H} (e : f_X11_letter x1 x2 h = some (.inl v, h1)) : am_Mi yX11_letter cX11_letter 3 (some .int) 5 114 [am_r (.inl 1) 0, am_i x1, am_i x2] h v h1 := by
  refine am_M.ofi (A := [some (am_r (.inl 1) 0), some (am_i x1), some (am_i x2)]) (by decide +kernel) rfl (ble rfl) (fun Q hQ => ?_)
  have H : wp (f_X11_letter x1 x2 h) (fun a => xL Q a.2 a.1) := ⟨_, e, hQ⟩
  unfold f_X11_letter at H
  refine rl_a0 dX11_letter_0 ?_
  refine rg_R (.inr 0) 0 dX11_letter_1 fg_X11_12 rfl rfl rfl (ok_X rfl) ?_
  refine rl_i1 dX11_letter_4 ?_
  obtain ⟨a1, e1, H⟩ := wp_b H
  refine rc_V1i dX11_letter_5 ml_X11_229 mc_X5_hasLetter (c_X5_hasLetter (by decide) e1) rfl rfl rfl (ok_P (by decide) rfl) rfl rfl rfl ?_
  refine ar_if_ne 21 dX11_letter_8 (by decide) (fun c1 => ?_) (fun c1 => ?_)
  · replace H := wp_f c1 H
    refine rl_i2 dX11_letter_21 ?_
    rcases Decidable.em (x2.toInt = 0) with c2_0 | c2_0
    · replace H := wp_t c2_0 H
      refine ar_swIn 88 dX11_letter_22 (by omega) (by omega) (by rw [c2_0]; rfl) (by decide) ?_
      refine rl_a0 dX11_letter_88 ?_
      refine rg_R (.inr 0) 0 dX11_letter_89 fg_X11_12 rfl rfl rfl (ok_X rfl) ?_
      refine rg_R (.inr 0) 6 dX11_letter_92 fg_X11_108 rfl rfl rfl (ok_P (by decide) rfl) ?_
      refine rg_R (.inr 0) 7 dX11_letter_95 fg_X11_234 rfl rfl rfl (ok_P (by decide) rfl) ?_
      refine rl_i1 dX11_letter_98 ?_
      obtain ⟨b1, H⟩ := wp_g H
      refine ar_iald dX11_letter_99 rfl (ok_P (by decide) rfl) (ib_in b1) ?_
      replace H := wp_s H
      exact ar_iret dX11_letter_100 rfl rfl H
    replace H := wp_f c2_0 H
    rcases Decidable.em (x2.toInt = 1) with c2_1 | c2_1
    · replace H := wp_t c2_1 H
      refine ar_swIn 101 dX11_letter_22 (by omega) (by omega) (by rw [c2_1]; rfl) (by decide) ?_
      refine rl_a0 dX11_letter_101 ?_
      refine rg_R (.inr 0) 0 dX11_letter_102 fg_X11_12 rfl rfl rfl (ok_X rfl) ?_
      refine rg_R (.inr 0) 6 dX11_letter_105 fg_X11_108 rfl rfl rfl (ok_P (by decide) rfl) ?_
      refine rl_i1 dX11_letter_108 ?_
      obtain ⟨a2, e2, H⟩ := wp_b H
      refine rc_V1i dX11_letter_109 ml_X11_237 mc_X4_partsOf (c_X4_partsOf (by decide) e2) rfl rfl rfl (ok_P (by decide) rfl) rfl rfl rfl ?_
      replace H := wp_s H
      exact ar_iret dX11_letter_112 rfl rfl H
    replace H := wp_f c2_1 H
    rcases Decidable.em (x2.toInt = 2) with c2_2 | c2_2
    · replace H := wp_t c2_2 H
      refine ar_swIn 113 dX11_letter_22 (by omega) (by omega) (by rw [c2_2]; rfl) (by decide) ?_
      refine rl_a0 dX11_letter_113 ?_
      refine rg_R (.inr 0) 0 dX11_letter_114 fg_X11_12 rfl rfl rfl (ok_X rfl) ?_
      refine rl_i1 dX11_letter_117 ?_
      obtain ⟨a2, e2, H⟩ := wp_b H
      refine rc_V1i dX11_letter_118 ml_X11_240 mc_X5_centreTurn (c_X5_centreTurn (by decide) e2) rfl rfl rfl (ok_P (by decide) rfl) rfl rfl rfl ?_
      replace H := wp_s H
      exact ar_iret dX11_letter_121 rfl rfl H
    replace H := wp_f c2_2 H
    rcases Decidable.em (x2.toInt = 3) with c2_3 | c2_3
    · replace H := wp_t c2_3 H
      refine ar_swIn 122 dX11_letter_22 (by omega) (by omega) (by rw [c2_3]; rfl) (by decide) ?_
      refine rl_a0 dX11_letter_122 ?_
      refine rg_R (.inr 0) 0 dX11_letter_123 fg_X11_12 rfl rfl rfl (ok_X rfl) ?_
      refine rl_i1 dX11_letter_126 ?_
      obtain ⟨a2, e2, H⟩ := wp_b H
      refine rc_V1i dX11_letter_127 ml_X11_243 mc_X5_centreParts (c_X5_centreParts (by decide) e2) rfl rfl rfl (ok_P (by decide) rfl) rfl rfl rfl ?_
      replace H := wp_s H
      exact ar_iret dX11_letter_130 rfl rfl H
    replace H := wp_f c2_3 H
    rcases Decidable.em (x2.toInt = 4) with c2_4 | c2_4
    · replace H := wp_t c2_4 H
      refine ar_swIn 131 dX11_letter_22 (by omega) (by omega) (by rw [c2_4]; rfl) (by decide) ?_
      refine rl_a0 dX11_letter_131 ?_
      refine rg_R (.inr 0) 0 dX11_letter_132 fg_X11_12 rfl rfl rfl (ok_X rfl) ?_
      refine rl_i1 dX11_letter_135 ?_
      obtain ⟨a2, e2, H⟩ := wp_b H
      refine rc_V1i dX11_letter_136 ml_X11_246 mc_X5_leftEdge (c_X5_leftEdge (by decide) e2) rfl rfl rfl (ok_P (by decide) rfl) rfl rfl rfl ?_
      replace H := wp_s H
      exact ar_iret dX11_letter_139 rfl rfl H
    replace H := wp_f c2_4 H
    rcases Decidable.em (x2.toInt = 5) with c2_5 | c2_5
    · replace H := wp_t c2_5 H
      refine ar_swIn 140 dX11_letter_22 (by omega) (by omega) (by rw [c2_5]; rfl) (by decide) ?_
      refine rl_a0 dX11_letter_140 ?_
      refine rg_R (.inr 0) 0 dX11_letter_141 fg_X11_12 rfl rfl rfl (ok_X rfl) ?_
      refine rl_i1 dX11_letter_144 ?_
      obtain ⟨a2, e2, H⟩ := wp_b H
      refine rc_V1i dX11_letter_145 ml_X11_249 mc_X5_rightEdge (c_X5_rightEdge (by decide) e2) rfl rfl rfl (ok_P (by decide) rfl) rfl rfl rfl ?_
      replace H := wp_s H
      exact ar_iret dX11_letter_148 rfl rfl H
    replace H := wp_f c2_5 H
    rcases Decidable.em (x2.toInt = 6) with c2_6 | c2_6
    · replace H := wp_t c2_6 H
      refine ar_swIn 149 dX11_letter_22 (by omega) (by omega) (by rw [c2_6]; rfl) (by decide) ?_
      refine rl_a0 dX11_letter_149 ?_
      refine rg_R (.inr 0) 0 dX11_letter_150 fg_X11_12 rfl rfl rfl (ok_X rfl) ?_
      refine rg_R (.inr 0) 1 dX11_letter_153 fg_X11_136 rfl rfl rfl (ok_P (by decide) rfl) ?_
      refine rl_a0 dX11_letter_156 ?_
      refine rg_R (.inr 0) 0 dX11_letter_157 fg_X11_12 rfl rfl rfl (ok_X rfl) ?_
      refine rl_i1 dX11_letter_160 ?_
      obtain ⟨a2, e2, H⟩ := wp_b H
      refine rc_V1i dX11_letter_161 ml_X11_240 mc_X5_centreTurn (c_X5_centreTurn (by decide) e2) rfl rfl rfl (ok_P (by decide) rfl) rfl rfl rfl ?_
      obtain ⟨a3, e3, H⟩ := wp_b H
      refine rc_V1i dX11_letter_164 ml_X11_252 mc_X0_headingTo (c_X0_headingTo (by decide) e3) rfl rfl rfl (ok_P (by decide) rfl) rfl rfl rfl ?_
      replace H := wp_s H
      exact ar_iret dX11_letter_167 rfl rfl H
    replace H := wp_f c2_6 H
    rcases Decidable.em (x2.toInt = 7) with c2_7 | c2_7
    · replace H := wp_t c2_7 H
      refine ar_swIn 168 dX11_letter_22 (by omega) (by omega) (by rw [c2_7]; rfl) (by decide) ?_
      refine rl_a0 dX11_letter_168 ?_
      refine rg_R (.inr 0) 0 dX11_letter_169 fg_X11_12 rfl rfl rfl (ok_X rfl) ?_
      refine rl_i1 dX11_letter_172 ?_
      obtain ⟨a2, e2, H⟩ := wp_b H
      refine rc_V1i dX11_letter_173 ml_X11_255 mc_X5_arcUnder (c_X5_arcUnder (by decide) e2) rfl rfl rfl (ok_P (by decide) rfl) rfl rfl rfl ?_
      replace H := wp_s H
      exact ar_iret dX11_letter_176 rfl rfl H
    replace H := wp_f c2_7 H
    rcases Decidable.em (x2.toInt = 8) with c2_8 | c2_8
    · replace H := wp_t c2_8 H
      refine ar_swIn 177 dX11_letter_22 (by omega) (by omega) (by rw [c2_8]; rfl) (by decide) ?_
      refine rl_a0 dX11_letter_177 ?_
      refine rg_R (.inr 0) 0 dX11_letter_178 fg_X11_12 rfl rfl rfl (ok_X rfl) ?_
      refine rg_R (.inr 0) 6 dX11_letter_181 fg_X11_108 rfl rfl rfl (ok_P (by decide) rfl) ?_
      refine rg_R (.inr 0) 8 dX11_letter_184 fg_X11_258 rfl rfl rfl (ok_P (by decide) rfl) ?_
      refine rl_i1 dX11_letter_187 ?_
      obtain ⟨b1, H⟩ := wp_g H
      refine ar_zald dX11_letter_188 rfl (ok_P (by decide) rfl) (ib_in b1) ?_
      refine ar_if_eq 196 dX11_letter_189 (by decide) (fun c2 => ?_) (fun c2 => ?_)
      · replace H := wp_t c2 H
        refine ar_iconst (iI (0)) dX11_letter_196 rfl ?_
        replace H := wp_s H
        exact ar_iret dX11_letter_197 rfl rfl H
      · replace H := wp_f c2 H
        refine ar_iconst (iI (1)) dX11_letter_192 rfl ?_
        refine ar_goto 197 dX11_letter_193 (by decide) ?_
        replace H := wp_s H
        exact ar_iret dX11_letter_197 rfl rfl H
    replace H := wp_f c2_8 H
    rcases Decidable.em (x2.toInt = 9) with c2_9 | c2_9
    · replace H := wp_t c2_9 H
      refine ar_swIn 198 dX11_letter_22 (by omega) (by omega) (by rw [c2_9]; rfl) (by decide) ?_
      refine rl_a0 dX11_letter_198 ?_
      refine rl_i1 dX11_letter_199 ?_
      obtain ⟨a2, e2, H⟩ := wp_b H
      refine rc_V1i dX11_letter_200 ml_X11_261 mc_X11_isSpoiled (c_X11_isSpoiled e2) rfl rfl rfl (ok_X rfl) rfl rfl rfl ?_
      refine ar_if_eq 210 dX11_letter_203 (by decide) (fun c2 => ?_) (fun c2 => ?_)
      · replace H := wp_t c2 H
        refine ar_iconst (iI (0)) dX11_letter_210 rfl ?_
        replace H := wp_s H
        exact ar_iret dX11_letter_211 rfl rfl H
      · replace H := wp_f c2 H
        refine ar_iconst (iI (1)) dX11_letter_206 rfl ?_
        refine ar_goto 211 dX11_letter_207 (by decide) ?_
        replace H := wp_s H
        exact ar_iret dX11_letter_211 rfl rfl H
    replace H := wp_f c2_9 H
    rcases Decidable.em (x2.toInt = 10) with c2_10 | c2_10
    · replace H := wp_t c2_10 H
      refine ar_swIn 212 dX11_letter_22 (by omega) (by omega) (by rw [c2_10]; rfl) (by decide) ?_
      refine rl_a0 dX11_letter_212 ?_
      refine rg_R (.inr 0) 0 dX11_letter_213 fg_X11_12 rfl rfl rfl (ok_X rfl) ?_
      refine rg_R (.inr 0) 6 dX11_letter_216 fg_X11_108 rfl rfl rfl (ok_P (by decide) rfl) ?_
      refine rl_i1 dX11_letter_219 ?_
      obtain ⟨a2, e2, H⟩ := wp_b H
      refine rc_V1i dX11_letter_220 ml_X11_264 mc_X4_strokesOf (c_X4_strokesOf (by decide) e2) rfl rfl rfl (ok_P (by decide) rfl) rfl rfl rfl ?_
      replace H := wp_s H
      exact ar_iret dX11_letter_223 rfl rfl H
    replace H := wp_f c2_10 H
    rcases Decidable.em (x2.toInt = 11) with c2_11 | c2_11
    · replace H := wp_t c2_11 H
      refine ar_swIn 224 dX11_letter_22 (by omega) (by omega) (by rw [c2_11]; rfl) (by decide) ?_
      refine rl_a0 dX11_letter_224 ?_
      refine rg_R (.inr 0) 0 dX11_letter_225 fg_X11_12 rfl rfl rfl (ok_X rfl) ?_
      refine rg_R (.inr 0) 6 dX11_letter_228 fg_X11_108 rfl rfl rfl (ok_P (by decide) rfl) ?_
      refine rg_R (.inr 0) 9 dX11_letter_231 fg_X11_267 rfl rfl rfl (ok_P (by decide) rfl) ?_
      refine rl_i1 dX11_letter_234 ?_
      obtain ⟨b1, H⟩ := wp_g H
      refine ar_iald dX11_letter_235 rfl (ok_P (by decide) rfl) (ib_in b1) ?_
      replace H := wp_s H
      exact ar_iret dX11_letter_236 rfl rfl H
    replace H := wp_f c2_11 H
    rcases Decidable.em (x2.toInt = 12) with c2_12 | c2_12
    · replace H := wp_t c2_12 H
      refine ar_swIn 237 dX11_letter_22 (by omega) (by omega) (by rw [c2_12]; rfl) (by decide) ?_
      refine rl_a0 dX11_letter_237 ?_
      refine rg_R (.inr 0) 0 dX11_letter_238 fg_X11_12 rfl rfl rfl (ok_X rfl) ?_
      refine rg_R (.inr 0) 17 dX11_letter_241 fg_X11_170 rfl rfl rfl (ok_P (by decide) rfl) ?_
      refine rl_i1 dX11_letter_244 ?_
      obtain ⟨a2, e2, H⟩ := wp_b H
      refine rc_V1i dX11_letter_245 ml_X11_270 mc_X7_countOf (c_X7_countOf (by decide) e2) rfl rfl rfl (ok_P (by decide) rfl) rfl rfl rfl ?_
      replace H := wp_s H
      exact ar_iret dX11_letter_248 rfl rfl H
    replace H := wp_f c2_12 H
    refine ar_swOut 249 dX11_letter_22 (by omega) (by decide) ?_
    replace H := wp_s H
    exact H.elim
  · replace H := wp_t c1 H
    replace H := wp_s H
    exact H.elim
noncomputable def f_X11_scratch (x1 : Int32) (x2 : Int32) (h : am_H) : Option ((Int32 ⊕ Nat) × am_H) :=
  (f_X5_hasScratch 0 x1 h).bind (fun a1 => if a1 = 0 then (some ((.inr 2, h))) else (if x2.toInt = 0 then (if ib x1 44 then (some ((.inl (h.1 (.inr 0) 18 x1.toNatClampNeg), h))) else none) else (if x2.toInt = 1 then (if ib x1 44 then (some ((.inl (h.1 (.inr 0) 19 x1.toNatClampNeg), h))) else none) else (if x2.toInt = 2 then ((f_X11_letterSpoiledBy x1 h).bind (fun a2 => some ((.inl a2.1, a2.2)))) else (some ((.inr 1, h)))))))
theorem c_X11_scratch {x1 : Int32} {x2 : Int32} {h : am_H} {v : Int32} {h1 : am_H} (e : f_X11_scratch x1 x2 h = some (.inl v, h1)) : am_Mi yX11_scratch cX11_scratch 3 (some .int) 5 114 [am_r (.inl 1) 0, am_i x1, am_i x2] h v h1 := by
  refine am_M.ofi (A := [some (am_r (.inl 1) 0), some (am_i x1), some (am_i x2)]) (by decide +kernel) rfl (ble rfl) (fun Q hQ => ?_)
  have H : wp (f_X11_scratch x1 x2 h) (fun a => xL Q a.2 a.1) := ⟨_, e, hQ⟩
  unfold f_X11_scratch at H
  refine rl_a0 dX11_scratch_0 ?_
  refine rg_R (.inr 0) 0 dX11_scratch_1 fg_X11_12 rfl rfl rfl (ok_X rfl) ?_
  refine rl_i1 dX11_scratch_4 ?_
  obtain ⟨a1, e1, H⟩ := wp_b H
  refine rc_V1i dX11_scratch_5 ml_X11_275 mc_X5_hasScratch (c_X5_hasScratch (by decide) e1) rfl rfl rfl (ok_P (by decide) rfl) rfl rfl rfl ?_
  refine ar_if_ne 22 dX11_scratch_8 (by decide) (fun c1 => ?_) (fun c1 => ?_)
  · replace H := wp_f c1 H
    refine rl_i2 dX11_scratch_22 ?_
    rcases Decidable.em (x2.toInt = 0) with c2_0 | c2_0
    · replace H := wp_t c2_0 H
      refine ar_swIn 48 dX11_scratch_23 (by omega) (by omega) (by rw [c2_0]; rfl) (by decide) ?_
      refine rl_a0 dX11_scratch_48 ?_
      refine rg_R (.inr 0) 0 dX11_scratch_49 fg_X11_12 rfl rfl rfl (ok_X rfl) ?_
      refine rg_R (.inr 0) 17 dX11_scratch_52 fg_X11_170 rfl rfl rfl (ok_P (by decide) rfl) ?_
      refine rg_R (.inr 0) 18 dX11_scratch_55 fg_X11_280 rfl rfl rfl (ok_P (by decide) rfl) ?_
      refine rl_i1 dX11_scratch_58 ?_
      obtain ⟨b1, H⟩ := wp_g H
      refine ar_iald dX11_scratch_59 rfl (ok_P (by decide) rfl) (ib_in b1) ?_
      replace H := wp_s H
      exact ar_iret dX11_scratch_60 rfl rfl H
    replace H := wp_f c2_0 H
    rcases Decidable.em (x2.toInt = 1) with c2_1 | c2_1
    · replace H := wp_t c2_1 H
      refine ar_swIn 61 dX11_scratch_23 (by omega) (by omega) (by rw [c2_1]; rfl) (by decide) ?_
      refine rl_a0 dX11_scratch_61 ?_
      refine rg_R (.inr 0) 0 dX11_scratch_62 fg_X11_12 rfl rfl rfl (ok_X rfl) ?_
      refine rg_R (.inr 0) 17 dX11_scratch_65 fg_X11_170 rfl rfl rfl (ok_P (by decide) rfl) ?_
      refine rg_R (.inr 0) 19 dX11_scratch_68 fg_X11_282 rfl rfl rfl (ok_P (by decide) rfl) ?_
      refine rl_i1 dX11_scratch_71 ?_
      obtain ⟨b1, H⟩ := wp_g H
      refine ar_iald dX11_scratch_72 rfl (ok_P (by decide) rfl) (ib_in b1) ?_
      replace H := wp_s H
      exact ar_iret dX11_scratch_73 rfl rfl H
    replace H := wp_f c2_1 H
    rcases Decidable.em (x2.toInt = 2) with c2_2 | c2_2
    · replace H := wp_t c2_2 H
      refine ar_swIn 74 dX11_scratch_23 (by omega) (by omega) (by rw [c2_2]; rfl) (by decide) ?_
      refine rl_a0 dX11_scratch_74 ?_
      refine rl_i1 dX11_scratch_75 ?_
      obtain ⟨a2, e2, H⟩ := wp_b H
      refine rc_V1i dX11_scratch_76 ml_X11_285 mc_X11_letterSpoiledBy (c_X11_letterSpoiledBy e2) rfl rfl rfl (ok_X rfl) rfl rfl rfl ?_
      replace H := wp_s H
      exact ar_iret dX11_scratch_79 rfl rfl H
    replace H := wp_f c2_2 H
    refine ar_swOut 80 dX11_scratch_23 (by omega) (by decide) ?_
    replace H := wp_s H
    exact H.elim
  · replace H := wp_t c1 H
    replace H := wp_s H
    exact H.elim
noncomputable def f_X11_partsAt (x1 : Int32) (h : am_H) : Option ((Int32 ⊕ Nat)) :=
  (f_X0_wholeTurn 0 h).bind (fun a1 => (f_X11_isWithin x1 (iI (0)) a1).bind (fun a2 => if a2 = 0 then (some (.inr 1)) else ((f_X0_partsTo 0 x1 h).bind (fun a3 => some (.inl a3)))))
theorem c_X11_partsAt {x1 : Int32} {h : am_H} {v : Int32} (e : f_X11_partsAt x1 h = some (.inl v)) : am_Mi yX11_partsAt cX11_partsAt 2 (some .int) 2 46 [am_r (.inl 1) 0, am_i x1] h v h := by
  refine am_M.ofi (A := [some (am_r (.inl 1) 0), some (am_i x1)]) (by decide +kernel) rfl (ble rfl) (fun Q hQ => ?_)
  have H : wp (f_X11_partsAt x1 h) (fun a => xL Q h a) := ⟨_, e, hQ⟩
  unfold f_X11_partsAt at H
  refine rl_i1 dX11_partsAt_0 ?_
  refine ar_iconst (iI (0)) dX11_partsAt_1 rfl ?_
  refine rl_a0 dX11_partsAt_2 ?_
  refine rg_R (.inr 0) 0 dX11_partsAt_3 fg_X11_12 rfl rfl rfl (ok_X rfl) ?_
  refine rg_R (.inr 0) 1 dX11_partsAt_6 fg_X11_136 rfl rfl rfl (ok_P (by decide) rfl) ?_
  obtain ⟨a1, e1, H⟩ := wp_b H
  refine rc_V0i dX11_partsAt_9 ml_X11_154 mc_X0_wholeTurn (c_X0_wholeTurn (by decide) e1) rfl rfl rfl (ok_P (by decide) rfl) rfl rfl rfl ?_
  obtain ⟨a2, e2, H⟩ := wp_b H
  refine rc_S3i dX11_partsAt_12 ml_X11_86 mc_X11_isWithin (c_X11_isWithin e2) rfl rfl rfl ?_
  refine ar_if_ne 29 dX11_partsAt_15 (by decide) (fun c1 => ?_) (fun c1 => ?_)
  · replace H := wp_f c1 H
    refine rl_a0 dX11_partsAt_29 ?_
    refine rg_R (.inr 0) 0 dX11_partsAt_30 fg_X11_12 rfl rfl rfl (ok_X rfl) ?_
    refine rg_R (.inr 0) 1 dX11_partsAt_33 fg_X11_136 rfl rfl rfl (ok_P (by decide) rfl) ?_
    refine rl_i1 dX11_partsAt_36 ?_
    obtain ⟨a3, e3, H⟩ := wp_b H
    refine rc_V1i dX11_partsAt_37 ml_X11_301 mc_X0_partsTo (c_X0_partsTo (by decide) e3) rfl rfl rfl (ok_P (by decide) rfl) rfl rfl rfl ?_
    replace H := wp_s H
    exact ar_iret dX11_partsAt_40 rfl rfl H
  · replace H := wp_t c1 H
    replace H := wp_s H
    exact H.elim
noncomputable def f_X11_heading (x1 : Int32) (h : am_H) : Option ((Int32 ⊕ Nat)) :=
  (f_X0_wholeTurn 0 h).bind (fun a1 => (f_X11_isWithin x1 (iI (0)) a1).bind (fun a2 => if a2 = 0 then (some (.inr 1)) else ((f_X0_headingTo 0 x1 h).bind (fun a3 => some (.inl a3)))))
theorem c_X11_heading {x1 : Int32} {h : am_H} {v : Int32} (e : f_X11_heading x1 h = some (.inl v)) : am_Mi yX11_heading cX11_heading 2 (some .int) 2 47 [am_r (.inl 1) 0, am_i x1] h v h := by
  refine am_M.ofi (A := [some (am_r (.inl 1) 0), some (am_i x1)]) (by decide +kernel) rfl (ble rfl) (fun Q hQ => ?_)
  have H : wp (f_X11_heading x1 h) (fun a => xL Q h a) := ⟨_, e, hQ⟩
  unfold f_X11_heading at H
  refine rl_i1 dX11_heading_0 ?_
  refine ar_iconst (iI (0)) dX11_heading_1 rfl ?_
  refine rl_a0 dX11_heading_2 ?_
  refine rg_R (.inr 0) 0 dX11_heading_3 fg_X11_12 rfl rfl rfl (ok_X rfl) ?_
  refine rg_R (.inr 0) 1 dX11_heading_6 fg_X11_136 rfl rfl rfl (ok_P (by decide) rfl) ?_
  obtain ⟨a1, e1, H⟩ := wp_b H
  refine rc_V0i dX11_heading_9 ml_X11_154 mc_X0_wholeTurn (c_X0_wholeTurn (by decide) e1) rfl rfl rfl (ok_P (by decide) rfl) rfl rfl rfl ?_
  obtain ⟨a2, e2, H⟩ := wp_b H
  refine rc_S3i dX11_heading_12 ml_X11_86 mc_X11_isWithin (c_X11_isWithin e2) rfl rfl rfl ?_
  refine ar_if_ne 29 dX11_heading_15 (by decide) (fun c1 => ?_) (fun c1 => ?_)
  · replace H := wp_f c1 H
    refine rl_a0 dX11_heading_29 ?_
    refine rg_R (.inr 0) 0 dX11_heading_30 fg_X11_12 rfl rfl rfl (ok_X rfl) ?_
    refine rg_R (.inr 0) 1 dX11_heading_33 fg_X11_136 rfl rfl rfl (ok_P (by decide) rfl) ?_
    refine rl_i1 dX11_heading_36 ?_
    obtain ⟨a3, e3, H⟩ := wp_b H
    refine rc_V1i dX11_heading_37 ml_X11_252 mc_X0_headingTo (c_X0_headingTo (by decide) e3) rfl rfl rfl (ok_P (by decide) rfl) rfl rfl rfl ?_
    replace H := wp_s H
    exact ar_iret dX11_heading_40 rfl rfl H
  · replace H := wp_t c1 H
    replace H := wp_s H
    exact H.elim
noncomputable def f_X11_room (x1 : Int32) (h : am_H) : Option ((Int32 ⊕ Nat) × am_H) :=
  (f_X5_hasRoom 0 x1 h).bind (fun a1 => if a1 = 0 then (some ((.inr 2, h))) else ((f_X3_measure 0 h).bind (fun a2 => if ib x1 21 then (some ((.inl (a2.1 (.inl 1) 4 x1.toNatClampNeg), a2))) else none)))
theorem c_X11_room {x1 : Int32} {h : am_H} {v : Int32} {h1 : am_H} (e : f_X11_room x1 h = some (.inl v, h1)) : am_Mi yX11_room cX11_room 2 (some .int) 4 93 [am_r (.inl 1) 0, am_i x1] h v h1 := by
  refine am_M.ofi (A := [some (am_r (.inl 1) 0), some (am_i x1)]) (by decide +kernel) rfl (ble rfl) (fun Q hQ => ?_)
  have H : wp (f_X11_room x1 h) (fun a => xL Q a.2 a.1) := ⟨_, e, hQ⟩
  unfold f_X11_room at H
  refine rl_a0 dX11_room_0 ?_
  refine rg_R (.inr 0) 0 dX11_room_1 fg_X11_12 rfl rfl rfl (ok_X rfl) ?_
  refine rl_i1 dX11_room_4 ?_
  obtain ⟨a1, e1, H⟩ := wp_b H
  refine rc_V1i dX11_room_5 ml_X11_312 mc_X5_hasRoom (c_X5_hasRoom (by decide) e1) rfl rfl rfl (ok_P (by decide) rfl) rfl rfl rfl ?_
  refine ar_if_ne 22 dX11_room_8 (by decide) (fun c1 => ?_) (fun c1 => ?_)
  · replace H := wp_f c1 H
    refine rl_a0 dX11_room_22 ?_
    refine rg_R (.inl 1) 3 dX11_room_23 fg_X11_39 rfl rfl rfl (ok_X rfl) ?_
    refine rl_a0 dX11_room_26 ?_
    refine rg_R (.inr 0) 0 dX11_room_27 fg_X11_12 rfl rfl rfl (ok_X rfl) ?_
    obtain ⟨a2, e2, H⟩ := wp_b H
    refine rc_V1v dX11_room_30 ml_X11_317 mc_X3_measure (c_X3_measure (by decide) e2) rfl rfl rfl (ok_X rfl) rfl rfl rfl ?_
    refine rl_a0 dX11_room_33 ?_
    refine rg_R (.inl 1) 3 dX11_room_34 fg_X11_39 rfl rfl rfl (ok_X rfl) ?_
    refine rg_R (.inl 1) 4 dX11_room_37 fg_X11_320 rfl rfl rfl (ok_X rfl) ?_
    refine rl_i1 dX11_room_40 ?_
    obtain ⟨b1, H⟩ := wp_g H
    refine ar_iald dX11_room_41 rfl (ok_X rfl) (ib_in b1) ?_
    replace H := wp_s H
    exact ar_iret dX11_room_42 rfl rfl H
  · replace H := wp_t c1 H
    replace H := wp_s H
    exact H.elim
noncomputable def f_X11_flourishIn (x1 : Int32) (h : am_H) : Option ((Int32 ⊕ Nat) × am_H) :=
  (f_X5_hasRoom 0 x1 h).bind (fun a1 => if a1 = 0 then (some ((.inr 2, h))) else ((f_X3_fill 0 h).bind (fun a2 => if ib x1 21 then (some ((.inl (a2.1 (.inl 1) 5 x1.toNatClampNeg), a2))) else none)))
theorem c_X11_flourishIn {x1 : Int32} {h : am_H} {v : Int32} {h1 : am_H} (e : f_X11_flourishIn x1 h = some (.inl v, h1)) : am_Mi yX11_flourishIn cX11_flourishIn 2 (some .int) 5 115 [am_r (.inl 1) 0, am_i x1] h v h1 := by
  refine am_M.ofi (A := [some (am_r (.inl 1) 0), some (am_i x1)]) (by decide +kernel) rfl (ble rfl) (fun Q hQ => ?_)
  have H : wp (f_X11_flourishIn x1 h) (fun a => xL Q a.2 a.1) := ⟨_, e, hQ⟩
  unfold f_X11_flourishIn at H
  refine rl_a0 dX11_flourishIn_0 ?_
  refine rg_R (.inr 0) 0 dX11_flourishIn_1 fg_X11_12 rfl rfl rfl (ok_X rfl) ?_
  refine rl_i1 dX11_flourishIn_4 ?_
  obtain ⟨a1, e1, H⟩ := wp_b H
  refine rc_V1i dX11_flourishIn_5 ml_X11_312 mc_X5_hasRoom (c_X5_hasRoom (by decide) e1) rfl rfl rfl (ok_P (by decide) rfl) rfl rfl rfl ?_
  refine ar_if_ne 22 dX11_flourishIn_8 (by decide) (fun c1 => ?_) (fun c1 => ?_)
  · replace H := wp_f c1 H
    refine rl_a0 dX11_flourishIn_22 ?_
    refine rg_R (.inl 1) 3 dX11_flourishIn_23 fg_X11_39 rfl rfl rfl (ok_X rfl) ?_
    refine rl_a0 dX11_flourishIn_26 ?_
    refine rg_R (.inr 0) 0 dX11_flourishIn_27 fg_X11_12 rfl rfl rfl (ok_X rfl) ?_
    obtain ⟨a2, e2, H⟩ := wp_b H
    refine rc_V1v dX11_flourishIn_30 ml_X11_329 mc_X3_fill (c_X3_fill (by decide) e2) rfl rfl rfl (ok_X rfl) rfl rfl rfl ?_
    refine rl_a0 dX11_flourishIn_33 ?_
    refine rg_R (.inl 1) 3 dX11_flourishIn_34 fg_X11_39 rfl rfl rfl (ok_X rfl) ?_
    refine rg_R (.inl 1) 5 dX11_flourishIn_37 fg_X11_332 rfl rfl rfl (ok_X rfl) ?_
    refine rl_i1 dX11_flourishIn_40 ?_
    obtain ⟨b1, H⟩ := wp_g H
    refine ar_iald dX11_flourishIn_41 rfl (ok_X rfl) (ib_in b1) ?_
    replace H := wp_s H
    exact ar_iret dX11_flourishIn_42 rfl rfl H
  · replace H := wp_t c1 H
    replace H := wp_s H
    exact H.elim
noncomputable def f_X11_stockLeft (x1 : Int32) (h : am_H) : Option ((Int32 ⊕ Nat) × am_H) :=
  (f_X5_hasKind 0 x1 h).bind (fun a1 => if a1 = 0 then (some ((.inr 2, h))) else ((f_X3_fill 0 h).bind (fun a2 => if ib x1 6 then (some ((.inl (a2.1 (.inl 1) 7 x1.toNatClampNeg), a2))) else none)))
theorem c_X11_stockLeft {x1 : Int32} {h : am_H} {v : Int32} {h1 : am_H} (e : f_X11_stockLeft x1 h = some (.inl v, h1)) : am_Mi yX11_stockLeft cX11_stockLeft 2 (some .int) 5 115 [am_r (.inl 1) 0, am_i x1] h v h1 := by
  refine am_M.ofi (A := [some (am_r (.inl 1) 0), some (am_i x1)]) (by decide +kernel) rfl (ble rfl) (fun Q hQ => ?_)
  have H : wp (f_X11_stockLeft x1 h) (fun a => xL Q a.2 a.1) := ⟨_, e, hQ⟩
  unfold f_X11_stockLeft at H
  refine rl_a0 dX11_stockLeft_0 ?_
  refine rg_R (.inr 0) 0 dX11_stockLeft_1 fg_X11_12 rfl rfl rfl (ok_X rfl) ?_
  refine rl_i1 dX11_stockLeft_4 ?_
  obtain ⟨a1, e1, H⟩ := wp_b H
  refine rc_V1i dX11_stockLeft_5 ml_X11_290 mc_X5_hasKind (c_X5_hasKind (by decide) e1) rfl rfl rfl (ok_P (by decide) rfl) rfl rfl rfl ?_
  refine ar_if_ne 22 dX11_stockLeft_8 (by decide) (fun c1 => ?_) (fun c1 => ?_)
  · replace H := wp_f c1 H
    refine rl_a0 dX11_stockLeft_22 ?_
    refine rg_R (.inl 1) 3 dX11_stockLeft_23 fg_X11_39 rfl rfl rfl (ok_X rfl) ?_
    refine rl_a0 dX11_stockLeft_26 ?_
    refine rg_R (.inr 0) 0 dX11_stockLeft_27 fg_X11_12 rfl rfl rfl (ok_X rfl) ?_
    obtain ⟨a2, e2, H⟩ := wp_b H
    refine rc_V1v dX11_stockLeft_30 ml_X11_329 mc_X3_fill (c_X3_fill (by decide) e2) rfl rfl rfl (ok_X rfl) rfl rfl rfl ?_
    refine rl_a0 dX11_stockLeft_33 ?_
    refine rg_R (.inl 1) 3 dX11_stockLeft_34 fg_X11_39 rfl rfl rfl (ok_X rfl) ?_
    refine rg_R (.inl 1) 7 dX11_stockLeft_37 fg_X11_335 rfl rfl rfl (ok_X rfl) ?_
    refine rl_i1 dX11_stockLeft_40 ?_
    obtain ⟨b1, H⟩ := wp_g H
    refine ar_iald dX11_stockLeft_41 rfl (ok_X rfl) (ib_in b1) ?_
    replace H := wp_s H
    exact ar_iret dX11_stockLeft_42 rfl rfl H
  · replace H := wp_t c1 H
    replace H := wp_s H
    exact H.elim
noncomputable def f_X11_danger (x1 : Int32) (h : am_H) : Option ((Int32 ⊕ Nat)) :=
  (f_X5_hasLetter 0 x1 h).bind (fun a1 => if a1 = 0 then (some (.inr 2)) else ((f_X5_hardnessUnder 0 x1 h).bind (fun a2 => (f_J9_min_7cf53 (iI (100)) ((iI (2)) * (a2 - (h.1 (.inr 0) 16 0)))).bind (fun a3 => (f_J9_max_7cf53 (iI (0)) a3).bind (fun a4 => some (.inl a4))))))
theorem c_X11_danger {x1 : Int32} {h : am_H} {v : Int32} (e : f_X11_danger x1 h = some (.inl v)) : am_Mi yX11_danger cX11_danger 3 (some .int) 3 66 [am_r (.inl 1) 0, am_i x1] h v h := by
  refine am_M.ofi (A := [some (am_r (.inl 1) 0), some (am_i x1), none]) (by decide +kernel) rfl (ble rfl) (fun Q hQ => ?_)
  have H : wp (f_X11_danger x1 h) (fun a => xL Q h a) := ⟨_, e, hQ⟩
  unfold f_X11_danger at H
  refine rl_a0 dX11_danger_0 ?_
  refine rg_R (.inr 0) 0 dX11_danger_1 fg_X11_12 rfl rfl rfl (ok_X rfl) ?_
  refine rl_i1 dX11_danger_4 ?_
  obtain ⟨a1, e1, H⟩ := wp_b H
  refine rc_V1i dX11_danger_5 ml_X11_229 mc_X5_hasLetter (c_X5_hasLetter (by decide) e1) rfl rfl rfl (ok_P (by decide) rfl) rfl rfl rfl ?_
  refine ar_if_ne 21 dX11_danger_8 (by decide) (fun c1 => ?_) (fun c1 => ?_)
  · replace H := wp_f c1 H
    refine ar_iconst (iI (2)) dX11_danger_21 rfl ?_
    refine rl_a0 dX11_danger_22 ?_
    refine rg_R (.inr 0) 0 dX11_danger_23 fg_X11_12 rfl rfl rfl (ok_X rfl) ?_
    refine rl_i1 dX11_danger_26 ?_
    obtain ⟨a2, e2, H⟩ := wp_b H
    refine rc_V1i dX11_danger_27 ml_X11_349 mc_X5_hardnessUnder (c_X5_hardnessUnder (by decide) e2) rfl rfl rfl (ok_P (by decide) rfl) rfl rfl rfl ?_
    refine rl_a0 dX11_danger_30 ?_
    refine rg_R (.inr 0) 0 dX11_danger_31 fg_X11_12 rfl rfl rfl (ok_X rfl) ?_
    refine rg_R (.inr 0) 16 dX11_danger_34 fg_X11_161 rfl rfl rfl (ok_P (by decide) rfl) ?_
    refine ar_getI dX11_danger_37 fg_X11_164 rfl rfl (ok_P (by decide) rfl) ?_
    refine ar_isub dX11_danger_40 ?_
    refine ar_imul dX11_danger_41 ?_
    refine rs_i2 dX11_danger_42 rfl trivial ?_
    refine ar_iconst (iI (0)) dX11_danger_43 rfl ?_
    refine ar_bipush (iI (100)) dX11_danger_44 rfl ?_
    refine rl_i2 dX11_danger_46 ?_
    obtain ⟨a3, e3, H⟩ := wp_b H
    refine rc_S2i dX11_danger_47 ml_X11_352 mc_J9_min_7cf53 (c_J9_min_7cf53 e3) rfl rfl rfl ?_
    obtain ⟨a4, e4, H⟩ := wp_b H
    refine rc_S2i dX11_danger_50 ml_X11_357 mc_J9_max_7cf53 (c_J9_max_7cf53 e4) rfl rfl rfl ?_
    replace H := wp_s H
    exact ar_iret dX11_danger_53 rfl rfl H
  · replace H := wp_t c1 H
    replace H := wp_s H
    exact H.elim
noncomputable def f_X11_engrave (x1 : Int32) (h : am_H) : Option ((Int32 ⊕ Nat) × am_H) :=
  (f_X5_hasLetter 0 x1 h).bind (fun a1 => if a1 = 0 then (some ((.inr 2, h))) else ((f_X5_canEngrave 0 x1 h).bind (fun a2 => if a2 = 0 then (some ((.inr 0, h))) else ((f_X11_keepForUndo h).bind (fun a3 => (f_X5_engraveLetter 0 x1 a3).bind (fun a4 => some ((.inl a4.1, a4.2))))))))
theorem c_X11_engrave {x1 : Int32} {h : am_H} {v : Int32} {h1 : am_H} (e : f_X11_engrave x1 h = some (.inl v, h1)) : am_Mi yX11_engrave cX11_engrave 2 (some .int) 4 92 [am_r (.inl 1) 0, am_i x1] h v h1 := by
  refine am_M.ofi (A := [some (am_r (.inl 1) 0), some (am_i x1)]) (by decide +kernel) rfl (ble rfl) (fun Q hQ => ?_)
  have H : wp (f_X11_engrave x1 h) (fun a => xL Q a.2 a.1) := ⟨_, e, hQ⟩
  unfold f_X11_engrave at H
  refine rl_a0 dX11_engrave_0 ?_
  refine rg_R (.inr 0) 0 dX11_engrave_1 fg_X11_12 rfl rfl rfl (ok_X rfl) ?_
  refine rl_i1 dX11_engrave_4 ?_
  obtain ⟨a1, e1, H⟩ := wp_b H
  refine rc_V1i dX11_engrave_5 ml_X11_229 mc_X5_hasLetter (c_X5_hasLetter (by decide) e1) rfl rfl rfl (ok_P (by decide) rfl) rfl rfl rfl ?_
  refine ar_if_ne 21 dX11_engrave_8 (by decide) (fun c1 => ?_) (fun c1 => ?_)
  · replace H := wp_f c1 H
    refine rl_a0 dX11_engrave_21 ?_
    refine rg_R (.inr 0) 0 dX11_engrave_22 fg_X11_12 rfl rfl rfl (ok_X rfl) ?_
    refine rl_i1 dX11_engrave_25 ?_
    obtain ⟨a2, e2, H⟩ := wp_b H
    refine rc_V1i dX11_engrave_26 ml_X11_395 mc_X5_canEngrave (c_X5_canEngrave (by decide) e2) rfl rfl rfl (ok_P (by decide) rfl) rfl rfl rfl ?_
    refine ar_if_ne 43 dX11_engrave_29 (by decide) (fun c2 => ?_) (fun c2 => ?_)
    · replace H := wp_f c2 H
      refine rl_a0 dX11_engrave_43 ?_
      obtain ⟨a3, e3, H⟩ := wp_b H
      refine rc_V0v dX11_engrave_44 ml_X11_123 mc_X11_keepForUndo (c_X11_keepForUndo e3) rfl rfl rfl (ok_X rfl) rfl rfl rfl ?_
      refine rl_a0 dX11_engrave_47 ?_
      refine rg_R (.inr 0) 0 dX11_engrave_48 fg_X11_12 rfl rfl rfl (ok_X rfl) ?_
      refine rl_i1 dX11_engrave_51 ?_
      obtain ⟨a4, e4, H⟩ := wp_b H
      refine rc_V1i dX11_engrave_52 ml_X11_400 mc_X5_engraveLetter (c_X5_engraveLetter (by decide) e4) rfl rfl rfl (ok_P (by decide) rfl) rfl rfl rfl ?_
      replace H := wp_s H
      exact ar_iret dX11_engrave_55 rfl rfl H
    · replace H := wp_t c2 H
      replace H := wp_s H
      exact H.elim
  · replace H := wp_t c1 H
    replace H := wp_s H
    exact H.elim
noncomputable def f_X11_engraveAll  (h : am_H) : Option ((Int32 ⊕ Nat) × am_H) :=
  (f_X5_canEngravePlanned 0 h).bind (fun a1 => if a1 = 0 then (some ((.inr 0, h))) else ((f_X11_keepForUndo h).bind (fun a2 => (f_X5_engravePlanned 0 a2).bind (fun a3 => some ((.inl a3.1, a3.2))))))
theorem c_X11_engraveAll  {h : am_H} {v : Int32} {h1 : am_H} (e : f_X11_engraveAll h = some (.inl v, h1)) : am_Mi yX11_engraveAll cX11_engraveAll 1 (some .int) 5 114 [am_r (.inl 1) 0] h v h1 := by
  refine am_M.ofi (A := [some (am_r (.inl 1) 0)]) (by decide +kernel) rfl (ble rfl) (fun Q hQ => ?_)
  have H : wp (f_X11_engraveAll h) (fun a => xL Q a.2 a.1) := ⟨_, e, hQ⟩
  unfold f_X11_engraveAll at H
  refine rl_a0 dX11_engraveAll_0 ?_
  refine rg_R (.inr 0) 0 dX11_engraveAll_1 fg_X11_12 rfl rfl rfl (ok_X rfl) ?_
  obtain ⟨a1, e1, H⟩ := wp_b H
  refine rc_V0i dX11_engraveAll_4 ml_X11_403 mc_X5_canEngravePlanned (c_X5_canEngravePlanned (by decide) e1) rfl rfl rfl (ok_P (by decide) rfl) rfl rfl rfl ?_
  refine ar_if_ne 21 dX11_engraveAll_7 (by decide) (fun c1 => ?_) (fun c1 => ?_)
  · replace H := wp_f c1 H
    refine rl_a0 dX11_engraveAll_21 ?_
    obtain ⟨a2, e2, H⟩ := wp_b H
    refine rc_V0v dX11_engraveAll_22 ml_X11_123 mc_X11_keepForUndo (c_X11_keepForUndo e2) rfl rfl rfl (ok_X rfl) rfl rfl rfl ?_
    refine rl_a0 dX11_engraveAll_25 ?_
    refine rg_R (.inr 0) 0 dX11_engraveAll_26 fg_X11_12 rfl rfl rfl (ok_X rfl) ?_
    obtain ⟨a3, e3, H⟩ := wp_b H
    refine rc_V0i dX11_engraveAll_29 ml_X11_408 mc_X5_engravePlanned (c_X5_engravePlanned (by decide) e3) rfl rfl rfl (ok_P (by decide) rfl) rfl rfl rfl ?_
    replace H := wp_s H
    exact ar_iret dX11_engraveAll_32 rfl rfl H
  · replace H := wp_t c1 H
    replace H := wp_s H
    exact H.elim
noncomputable def f_X11_mend (x1 : Int32) (h : am_H) : Option ((Int32 ⊕ Nat) × am_H) :=
  (f_X5_hasScratch 0 x1 h).bind (fun a1 => if a1 = 0 then (some ((.inr 2, h))) else ((f_X5_canMend 0 x1 h).bind (fun a2 => if a2 = 0 then (some ((.inr 0, h))) else ((f_X11_keepForUndo h).bind (fun a3 => (f_X5_mendScratch 0 x1 a3).bind (fun a4 => some ((.inl a4.1, a4.2))))))))
theorem c_X11_mend {x1 : Int32} {h : am_H} {v : Int32} {h1 : am_H} (e : f_X11_mend x1 h = some (.inl v, h1)) : am_Mi yX11_mend cX11_mend 2 (some .int) 4 88 [am_r (.inl 1) 0, am_i x1] h v h1 := by
  refine am_M.ofi (A := [some (am_r (.inl 1) 0), some (am_i x1)]) (by decide +kernel) rfl (ble rfl) (fun Q hQ => ?_)
  have H : wp (f_X11_mend x1 h) (fun a => xL Q a.2 a.1) := ⟨_, e, hQ⟩
  unfold f_X11_mend at H
  refine rl_a0 dX11_mend_0 ?_
  refine rg_R (.inr 0) 0 dX11_mend_1 fg_X11_12 rfl rfl rfl (ok_X rfl) ?_
  refine rl_i1 dX11_mend_4 ?_
  obtain ⟨a1, e1, H⟩ := wp_b H
  refine rc_V1i dX11_mend_5 ml_X11_275 mc_X5_hasScratch (c_X5_hasScratch (by decide) e1) rfl rfl rfl (ok_P (by decide) rfl) rfl rfl rfl ?_
  refine ar_if_ne 22 dX11_mend_8 (by decide) (fun c1 => ?_) (fun c1 => ?_)
  · replace H := wp_f c1 H
    refine rl_a0 dX11_mend_22 ?_
    refine rg_R (.inr 0) 0 dX11_mend_23 fg_X11_12 rfl rfl rfl (ok_X rfl) ?_
    refine rl_i1 dX11_mend_26 ?_
    obtain ⟨a2, e2, H⟩ := wp_b H
    refine rc_V1i dX11_mend_27 ml_X11_411 mc_X5_canMend (c_X5_canMend (by decide) e2) rfl rfl rfl (ok_P (by decide) rfl) rfl rfl rfl ?_
    refine ar_if_ne 44 dX11_mend_30 (by decide) (fun c2 => ?_) (fun c2 => ?_)
    · replace H := wp_f c2 H
      refine rl_a0 dX11_mend_44 ?_
      obtain ⟨a3, e3, H⟩ := wp_b H
      refine rc_V0v dX11_mend_45 ml_X11_123 mc_X11_keepForUndo (c_X11_keepForUndo e3) rfl rfl rfl (ok_X rfl) rfl rfl rfl ?_
      refine rl_a0 dX11_mend_48 ?_
      refine rg_R (.inr 0) 0 dX11_mend_49 fg_X11_12 rfl rfl rfl (ok_X rfl) ?_
      refine rl_i1 dX11_mend_52 ?_
      obtain ⟨a4, e4, H⟩ := wp_b H
      refine rc_V1i dX11_mend_53 ml_X11_416 mc_X5_mendScratch (c_X5_mendScratch (by decide) e4) rfl rfl rfl (ok_P (by decide) rfl) rfl rfl rfl ?_
      replace H := wp_s H
      exact ar_iret dX11_mend_56 rfl rfl H
    · replace H := wp_t c2 H
      replace H := wp_s H
      exact H.elim
  · replace H := wp_t c1 H
    replace H := wp_s H
    exact H.elim
noncomputable def f_X11_polish (x1 : Int32) (h : am_H) : Option ((Int32 ⊕ Nat) × am_H) :=
  (f_X5_hasLetter 0 x1 h).bind (fun a1 => if a1 = 0 then (some ((.inr 2, h))) else ((f_X5_canPolish 0 x1 h).bind (fun a2 => if a2 = 0 then (some ((.inr 0, h))) else ((f_X11_keepForUndo h).bind (fun a3 => (f_X5_polishLetter 0 x1 a3).bind (fun a4 => some ((.inl a4.1, a4.2))))))))
theorem c_X11_polish {x1 : Int32} {h : am_H} {v : Int32} {h1 : am_H} (e : f_X11_polish x1 h = some (.inl v, h1)) : am_Mi yX11_polish cX11_polish 2 (some .int) 4 88 [am_r (.inl 1) 0, am_i x1] h v h1 := by
  refine am_M.ofi (A := [some (am_r (.inl 1) 0), some (am_i x1)]) (by decide +kernel) rfl (ble rfl) (fun Q hQ => ?_)
  have H : wp (f_X11_polish x1 h) (fun a => xL Q a.2 a.1) := ⟨_, e, hQ⟩
  unfold f_X11_polish at H
  refine rl_a0 dX11_polish_0 ?_
  refine rg_R (.inr 0) 0 dX11_polish_1 fg_X11_12 rfl rfl rfl (ok_X rfl) ?_
  refine rl_i1 dX11_polish_4 ?_
  obtain ⟨a1, e1, H⟩ := wp_b H
  refine rc_V1i dX11_polish_5 ml_X11_229 mc_X5_hasLetter (c_X5_hasLetter (by decide) e1) rfl rfl rfl (ok_P (by decide) rfl) rfl rfl rfl ?_
  refine ar_if_ne 21 dX11_polish_8 (by decide) (fun c1 => ?_) (fun c1 => ?_)
  · replace H := wp_f c1 H
    refine rl_a0 dX11_polish_21 ?_
    refine rg_R (.inr 0) 0 dX11_polish_22 fg_X11_12 rfl rfl rfl (ok_X rfl) ?_
    refine rl_i1 dX11_polish_25 ?_
    obtain ⟨a2, e2, H⟩ := wp_b H
    refine rc_V1i dX11_polish_26 ml_X11_419 mc_X5_canPolish (c_X5_canPolish (by decide) e2) rfl rfl rfl (ok_P (by decide) rfl) rfl rfl rfl ?_
    refine ar_if_ne 43 dX11_polish_29 (by decide) (fun c2 => ?_) (fun c2 => ?_)
    · replace H := wp_f c2 H
      refine rl_a0 dX11_polish_43 ?_
      obtain ⟨a3, e3, H⟩ := wp_b H
      refine rc_V0v dX11_polish_44 ml_X11_123 mc_X11_keepForUndo (c_X11_keepForUndo e3) rfl rfl rfl (ok_X rfl) rfl rfl rfl ?_
      refine rl_a0 dX11_polish_47 ?_
      refine rg_R (.inr 0) 0 dX11_polish_48 fg_X11_12 rfl rfl rfl (ok_X rfl) ?_
      refine rl_i1 dX11_polish_51 ?_
      obtain ⟨a4, e4, H⟩ := wp_b H
      refine rc_V1i dX11_polish_52 ml_X11_424 mc_X5_polishLetter (c_X5_polishLetter (by decide) e4) rfl rfl rfl (ok_P (by decide) rfl) rfl rfl rfl ?_
      replace H := wp_s H
      exact ar_iret dX11_polish_55 rfl rfl H
    · replace H := wp_t c2 H
      replace H := wp_s H
      exact H.elim
  · replace H := wp_t c1 H
    replace H := wp_s H
    exact H.elim
noncomputable def f_X11_sharpen (x1 : Int32) (h : am_H) : Option ((Int32 ⊕ Nat) × am_H) :=
  (f_X1_canSharpenBy x1).bind (fun a1 => if a1 = 0 then (some ((.inr 1, h))) else ((f_X11_keepForUndo h).bind (fun a2 => (f_X1_sharpenBy (.inr 0) 16 x1 a2).bind (fun a3 => some ((.inl a3.1, a3.2))))))
theorem c_X11_sharpen {x1 : Int32} {h : am_H} {v : Int32} {h1 : am_H} (e : f_X11_sharpen x1 h = some (.inl v, h1)) : am_Mi yX11_sharpen cX11_sharpen 2 (some .int) 4 88 [am_r (.inl 1) 0, am_i x1] h v h1 := by
  refine am_M.ofi (A := [some (am_r (.inl 1) 0), some (am_i x1)]) (by decide +kernel) rfl (ble rfl) (fun Q hQ => ?_)
  have H : wp (f_X11_sharpen x1 h) (fun a => xL Q a.2 a.1) := ⟨_, e, hQ⟩
  unfold f_X11_sharpen at H
  refine rl_i1 dX11_sharpen_0 ?_
  obtain ⟨a1, e1, H⟩ := wp_b H
  refine rc_S1i dX11_sharpen_1 ml_X11_427 mc_X1_canSharpenBy (c_X1_canSharpenBy e1) rfl rfl rfl ?_
  refine ar_if_ne 18 dX11_sharpen_4 (by decide) (fun c1 => ?_) (fun c1 => ?_)
  · replace H := wp_f c1 H
    refine rl_a0 dX11_sharpen_18 ?_
    obtain ⟨a2, e2, H⟩ := wp_b H
    refine rc_V0v dX11_sharpen_19 ml_X11_123 mc_X11_keepForUndo (c_X11_keepForUndo e2) rfl rfl rfl (ok_X rfl) rfl rfl rfl ?_
    refine rl_a0 dX11_sharpen_22 ?_
    refine rg_R (.inr 0) 0 dX11_sharpen_23 fg_X11_12 rfl rfl rfl (ok_X rfl) ?_
    refine rg_R (.inr 0) 16 dX11_sharpen_26 fg_X11_161 rfl rfl rfl (ok_P (by decide) rfl) ?_
    refine rl_i1 dX11_sharpen_29 ?_
    obtain ⟨a3, e3, H⟩ := wp_b H
    refine rc_V1i dX11_sharpen_30 ml_X11_432 mc_X1_sharpenBy (c_X1_sharpenBy rfl (ok_P (by decide) rfl) e3) rfl rfl rfl (ok_P (by decide) rfl) rfl rfl rfl ?_
    replace H := wp_s H
    exact ar_iret dX11_sharpen_33 rfl rfl H
  · replace H := wp_t c1 H
    replace H := wp_s H
    exact H.elim
noncomputable def f_X11_setMargin (x1 : Int32) (h : am_H) : Option ((Int32 ⊕ Nat) × am_H) :=
  (f_X5_canHaveMargin x1).bind (fun a1 => if a1 = 0 then (some ((.inr 1, h))) else ((f_X11_keepForUndo h).bind (fun a2 => am_lt (am_u a2 (.inr 0) 0 5 x1) (fun h1 => some ((.inl (a2.1 (.inr 0) 0 5), h1))))))
theorem c_X11_setMargin {x1 : Int32} {h : am_H} {v : Int32} {h1 : am_H} (e : f_X11_setMargin x1 h = some (.inl v, h1)) : am_Mi yX11_setMargin cX11_setMargin 3 (some .int) 4 88 [am_r (.inl 1) 0, am_i x1] h v h1 := by
  refine am_M.ofi (A := [some (am_r (.inl 1) 0), some (am_i x1), none]) (by decide +kernel) rfl (ble rfl) (fun Q hQ => ?_)
  have H : wp (f_X11_setMargin x1 h) (fun a => xL Q a.2 a.1) := ⟨_, e, hQ⟩
  unfold f_X11_setMargin at H
  refine rl_i1 dX11_setMargin_0 ?_
  obtain ⟨a1, e1, H⟩ := wp_b H
  refine rc_S1i dX11_setMargin_1 ml_X11_435 mc_X5_canHaveMargin (c_X5_canHaveMargin e1) rfl rfl rfl ?_
  refine ar_if_ne 18 dX11_setMargin_4 (by decide) (fun c1 => ?_) (fun c1 => ?_)
  · replace H := wp_f c1 H
    refine rl_a0 dX11_setMargin_18 ?_
    obtain ⟨a2, e2, H⟩ := wp_b H
    refine rc_V0v dX11_setMargin_19 ml_X11_123 mc_X11_keepForUndo (c_X11_keepForUndo e2) rfl rfl rfl (ok_X rfl) rfl rfl rfl ?_
    refine rl_a0 dX11_setMargin_22 ?_
    refine rg_R (.inr 0) 0 dX11_setMargin_23 fg_X11_12 rfl rfl rfl (ok_X rfl) ?_
    refine ar_getI dX11_setMargin_26 fg_X11_167 rfl rfl (ok_P (by decide) rfl) ?_
    refine rs_i2 dX11_setMargin_29 rfl trivial ?_
    refine rl_a0 dX11_setMargin_30 ?_
    refine rg_R (.inr 0) 0 dX11_setMargin_31 fg_X11_12 rfl rfl rfl (ok_X rfl) ?_
    refine rl_i1 dX11_setMargin_34 ?_
    refine ar_putI dX11_setMargin_35 fg_X11_167 rfl rfl (ok_P (by decide) rfl) rfl rfl ?_
    replace H := wp_l H
    generalize am_u a2 (.inr 0) 0 5 x1 = h1 at H ⊢
    refine rl_i2 dX11_setMargin_38 ?_
    replace H := wp_s H
    exact ar_iret dX11_setMargin_39 rfl rfl H
  · replace H := wp_t c1 H
    replace H := wp_s H
    exact H.elim
noncomputable def f_X11_setRadius (x1 : Int32) (x2 : Int32) (h : am_H) : Option ((Int32 ⊕ Nat) × am_H) :=
  (f_X5_hasArc 0 x1 h).bind (fun a1 => if a1 = 0 then (some ((.inr 2, h))) else ((f_X11_isWithin x2 (iI (1)) (iI (99))).bind (fun a2 => if a2 = 0 then (some ((.inr 1, h))) else ((f_X11_keepForUndo h).bind (fun a3 => if ib x1 8 then (if ib x1 8 then (am_lt (am_u a3 (.inr 0) 2 x1.toNatClampNeg x2) (fun h1 => some ((.inl (a3.1 (.inr 0) 2 x1.toNatClampNeg), h1)))) else none) else none)))))
theorem c_X11_setRadius {x1 : Int32} {x2 : Int32} {h : am_H} {v : Int32} {h1 : am_H} (e : f_X11_setRadius x1 x2 h = some (.inl v, h1)) : am_Mi yX11_setRadius cX11_setRadius 4 (some .int) 4 88 [am_r (.inl 1) 0, am_i x1, am_i x2] h v h1 := by
  refine am_M.ofi (A := [some (am_r (.inl 1) 0), some (am_i x1), some (am_i x2), none]) (by decide +kernel) rfl (ble rfl) (fun Q hQ => ?_)
  have H : wp (f_X11_setRadius x1 x2 h) (fun a => xL Q a.2 a.1) := ⟨_, e, hQ⟩
  unfold f_X11_setRadius at H
  refine rl_a0 dX11_setRadius_0 ?_
  refine rg_R (.inr 0) 0 dX11_setRadius_1 fg_X11_12 rfl rfl rfl (ok_X rfl) ?_
  refine rl_i1 dX11_setRadius_4 ?_
  obtain ⟨a1, e1, H⟩ := wp_b H
  refine rc_V1i dX11_setRadius_5 ml_X11_194 mc_X5_hasArc (c_X5_hasArc (by decide) e1) rfl rfl rfl (ok_P (by decide) rfl) rfl rfl rfl ?_
  refine ar_if_ne 21 dX11_setRadius_8 (by decide) (fun c1 => ?_) (fun c1 => ?_)
  · replace H := wp_f c1 H
    refine rl_i2 dX11_setRadius_21 ?_
    refine ar_iconst (iI (1)) dX11_setRadius_22 rfl ?_
    refine ar_bipush (iI (99)) dX11_setRadius_23 rfl ?_
    obtain ⟨a2, e2, H⟩ := wp_b H
    refine rc_S3i dX11_setRadius_25 ml_X11_86 mc_X11_isWithin (c_X11_isWithin e2) rfl rfl rfl ?_
    refine ar_if_ne 42 dX11_setRadius_28 (by decide) (fun c2 => ?_) (fun c2 => ?_)
    · replace H := wp_f c2 H
      refine rl_a0 dX11_setRadius_42 ?_
      obtain ⟨a3, e3, H⟩ := wp_b H
      refine rc_V0v dX11_setRadius_43 ml_X11_123 mc_X11_keepForUndo (c_X11_keepForUndo e3) rfl rfl rfl (ok_X rfl) rfl rfl rfl ?_
      refine rl_a0 dX11_setRadius_46 ?_
      refine rg_R (.inr 0) 0 dX11_setRadius_47 fg_X11_12 rfl rfl rfl (ok_X rfl) ?_
      refine rg_R (.inr 0) 1 dX11_setRadius_50 fg_X11_136 rfl rfl rfl (ok_P (by decide) rfl) ?_
      refine rg_R (.inr 0) 2 dX11_setRadius_53 fg_X11_203 rfl rfl rfl (ok_P (by decide) rfl) ?_
      refine rl_i1 dX11_setRadius_56 ?_
      obtain ⟨b1, H⟩ := wp_g H
      refine ar_iald dX11_setRadius_57 rfl (ok_P (by decide) rfl) (ib_in b1) ?_
      refine rs_i3 dX11_setRadius_58 rfl trivial ?_
      refine rl_a0 dX11_setRadius_59 ?_
      refine rg_R (.inr 0) 0 dX11_setRadius_60 fg_X11_12 rfl rfl rfl (ok_X rfl) ?_
      refine rg_R (.inr 0) 1 dX11_setRadius_63 fg_X11_136 rfl rfl rfl (ok_P (by decide) rfl) ?_
      refine rg_R (.inr 0) 2 dX11_setRadius_66 fg_X11_203 rfl rfl rfl (ok_P (by decide) rfl) ?_
      refine rl_i1 dX11_setRadius_69 ?_
      refine rl_i2 dX11_setRadius_70 ?_
      obtain ⟨b2, H⟩ := wp_g H
      refine ar_iast dX11_setRadius_71 rfl (ok_P (by decide) rfl) (ib_in b2) ?_
      replace H := wp_l H
      generalize am_u a3 (.inr 0) 2 x1.toNatClampNeg x2 = h1 at H ⊢
      refine rl_i3 dX11_setRadius_72 ?_
      replace H := wp_s H
      exact ar_iret dX11_setRadius_73 rfl rfl H
    · replace H := wp_t c2 H
      replace H := wp_s H
      exact H.elim
  · replace H := wp_t c1 H
    replace H := wp_s H
    exact H.elim
noncomputable def f_X11_setWidth (x1 : Int32) (x2 : Int32) (h : am_H) : Option ((Int32 ⊕ Nat) × am_H) :=
  (f_X11_isPlace x1).bind (fun a1 => if a1 = 0 then (some ((.inr 1, h))) else ((f_X11_isWithin x2 (iI (1)) (iI (99))).bind (fun a2 => if a2 = 0 then (some ((.inr 1, h))) else ((f_X11_keepForUndo h).bind (fun a3 => if ib x1 26 then (if ib x1 26 then (am_lt (am_u a3 (.inr 0) 10 x1.toNatClampNeg x2) (fun h1 => some ((.inl (a3.1 (.inr 0) 10 x1.toNatClampNeg), h1)))) else none) else none)))))
theorem c_X11_setWidth {x1 : Int32} {x2 : Int32} {h : am_H} {v : Int32} {h1 : am_H} (e : f_X11_setWidth x1 x2 h = some (.inl v, h1)) : am_Mi yX11_setWidth cX11_setWidth 4 (some .int) 4 88 [am_r (.inl 1) 0, am_i x1, am_i x2] h v h1 := by
  refine am_M.ofi (A := [some (am_r (.inl 1) 0), some (am_i x1), some (am_i x2), none]) (by decide +kernel) rfl (ble rfl) (fun Q hQ => ?_)
  have H : wp (f_X11_setWidth x1 x2 h) (fun a => xL Q a.2 a.1) := ⟨_, e, hQ⟩
  unfold f_X11_setWidth at H
  refine rl_i1 dX11_setWidth_0 ?_
  obtain ⟨a1, e1, H⟩ := wp_b H
  refine rc_S1i dX11_setWidth_1 ml_X11_369 mc_X11_isPlace (c_X11_isPlace e1) rfl rfl rfl ?_
  refine ar_if_eq 17 dX11_setWidth_4 (by decide) (fun c1 => ?_) (fun c1 => ?_)
  · replace H := wp_t c1 H
    replace H := wp_s H
    exact H.elim
  · replace H := wp_f c1 H
    refine rl_i2 dX11_setWidth_7 ?_
    refine ar_iconst (iI (1)) dX11_setWidth_8 rfl ?_
    refine ar_bipush (iI (99)) dX11_setWidth_9 rfl ?_
    obtain ⟨a2, e2, H⟩ := wp_b H
    refine rc_S3i dX11_setWidth_11 ml_X11_86 mc_X11_isWithin (c_X11_isWithin e2) rfl rfl rfl ?_
    refine ar_if_ne 28 dX11_setWidth_14 (by decide) (fun c2 => ?_) (fun c2 => ?_)
    · replace H := wp_f c2 H
      refine rl_a0 dX11_setWidth_28 ?_
      obtain ⟨a3, e3, H⟩ := wp_b H
      refine rc_V0v dX11_setWidth_29 ml_X11_123 mc_X11_keepForUndo (c_X11_keepForUndo e3) rfl rfl rfl (ok_X rfl) rfl rfl rfl ?_
      refine rl_a0 dX11_setWidth_32 ?_
      refine rg_R (.inr 0) 0 dX11_setWidth_33 fg_X11_12 rfl rfl rfl (ok_X rfl) ?_
      refine rg_R (.inr 0) 6 dX11_setWidth_36 fg_X11_108 rfl rfl rfl (ok_P (by decide) rfl) ?_
      refine rg_R (.inr 0) 10 dX11_setWidth_39 fg_X11_374 rfl rfl rfl (ok_P (by decide) rfl) ?_
      refine rl_i1 dX11_setWidth_42 ?_
      obtain ⟨b1, H⟩ := wp_g H
      refine ar_iald dX11_setWidth_43 rfl (ok_P (by decide) rfl) (ib_in b1) ?_
      refine rs_i3 dX11_setWidth_44 rfl trivial ?_
      refine rl_a0 dX11_setWidth_45 ?_
      refine rg_R (.inr 0) 0 dX11_setWidth_46 fg_X11_12 rfl rfl rfl (ok_X rfl) ?_
      refine rg_R (.inr 0) 6 dX11_setWidth_49 fg_X11_108 rfl rfl rfl (ok_P (by decide) rfl) ?_
      refine rg_R (.inr 0) 10 dX11_setWidth_52 fg_X11_374 rfl rfl rfl (ok_P (by decide) rfl) ?_
      refine rl_i1 dX11_setWidth_55 ?_
      refine rl_i2 dX11_setWidth_56 ?_
      obtain ⟨b2, H⟩ := wp_g H
      refine ar_iast dX11_setWidth_57 rfl (ok_P (by decide) rfl) (ib_in b2) ?_
      replace H := wp_l H
      generalize am_u a3 (.inr 0) 10 x1.toNatClampNeg x2 = h1 at H ⊢
      refine rl_i3 dX11_setWidth_58 ?_
      replace H := wp_s H
      exact ar_iret dX11_setWidth_59 rfl rfl H
    · replace H := wp_t c2 H
      replace H := wp_s H
      exact H.elim
