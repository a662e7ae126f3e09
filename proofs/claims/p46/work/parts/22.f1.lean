noncomputable def s_X2_copyFrom (k : Nat) (k2 : Nat) : am_S am_H → Option (am_S am_H ⊕ am_H) := fun s => match s with
  | (10, [x2], [], [], h) => if (h.1 (.inr k) 11 4) ≤ x2 then (some (.inl (62, [(iI (0))], [], [], h))) else (if ib x2 6 then (if ib x2 6 then (am_lt (am_u h (.inr k) 13 x2.toNatClampNeg (h.1 (.inr k2) 13 x2.toNatClampNeg)) (fun h1 => if ib x2 6 then (if ib x2 6 then (am_lt (am_u h1 (.inr k) 14 x2.toNatClampNeg (h1.1 (.inr k2) 14 x2.toNatClampNeg)) (fun h2 => if ib x2 6 then (if ib x2 6 then (am_lt (am_u h2 (.inr k) 15 x2.toNatClampNeg (h2.1 (.inr k2) 15 x2.toNatClampNeg)) (fun h3 => some (.inl (10, [(x2 + 1)], [], [], h3)))) else none) else none)) else none) else none)) else none) else none)
  | (62, [x2], [], [], h) => if ((h.1 (.inr k) 11 4) * (iI (8))) ≤ x2 then (some (.inr (h))) else (if ib x2 48 then (if ib x2 48 then (am_lt (am_u h (.inr k) 12 x2.toNatClampNeg (h.1 (.inr k2) 12 x2.toNatClampNeg)) (fun h1 => some (.inl (62, [(x2 + 1)], [], [], h1)))) else none) else none)
  | _ => none
noncomputable def f_X2_copyFrom_10 (k : Nat) (k2 : Nat) (x2 : Int32) (h : am_H) : Option am_H := lp (s_X2_copyFrom k k2) (10, [x2], [], [], h)
noncomputable def f_X2_copyFrom_62 (k : Nat) (k2 : Nat) (x2 : Int32) (h : am_H) : Option am_H := lp (s_X2_copyFrom k k2) (62, [x2], [], [], h)
theorem e_X2_copyFrom_10 (k : Nat) (k2 : Nat) (x2 : Int32) (h : am_H) : f_X2_copyFrom_10 k k2 x2 h = (if (h.1 (.inr k) 11 4) ≤ x2 then (f_X2_copyFrom_62 k k2 (iI (0)) h) else (if ib x2 6 then (if ib x2 6 then (am_lt (am_u h (.inr k) 13 x2.toNatClampNeg (h.1 (.inr k2) 13 x2.toNatClampNeg)) (fun h1 => if ib x2 6 then (if ib x2 6 then (am_lt (am_u h1 (.inr k) 14 x2.toNatClampNeg (h1.1 (.inr k2) 14 x2.toNatClampNeg)) (fun h2 => if ib x2 6 then (if ib x2 6 then (am_lt (am_u h2 (.inr k) 15 x2.toNatClampNeg (h2.1 (.inr k2) 15 x2.toNatClampNeg)) (fun h3 => f_X2_copyFrom_10 k k2 (x2 + 1) h3)) else none) else none)) else none) else none)) else none) else none)) := by
  show lp _ _ = _
  rw [lp_eq, s_X2_copyFrom]
  simp only [lpk_i, lpk_b, lpk_l, lpk_n, lpk_j, lpk_r] <;> rfl
theorem e_X2_copyFrom_62 (k : Nat) (k2 : Nat) (x2 : Int32) (h : am_H) : f_X2_copyFrom_62 k k2 x2 h = (if ((h.1 (.inr k) 11 4) * (iI (8))) ≤ x2 then (some (h)) else (if ib x2 48 then (if ib x2 48 then (am_lt (am_u h (.inr k) 12 x2.toNatClampNeg (h.1 (.inr k2) 12 x2.toNatClampNeg)) (fun h1 => f_X2_copyFrom_62 k k2 (x2 + 1) h1)) else none) else none)) := by
  show lp _ _ = _
  rw [lp_eq, s_X2_copyFrom]
  simp only [lpk_i, lpk_b, lpk_l, lpk_n, lpk_j, lpk_r] <;> rfl
noncomputable def f_X2_copyFrom (k : Nat) (k2 : Nat) (h : am_H) : Option am_H :=
  am_lt (am_u h (.inr k) 11 4 (h.1 (.inr k2) 11 4)) (fun h1 => f_X2_copyFrom_10 k k2 (iI (0)) h1)
theorem c_X2_copyFrom_L {k : Nat} (hk : k < 10) {k2 : Nat} (hk2 : k2 < 10) {Q : Option am_v → am_H → Prop} : ∀ s, wp (lp (s_X2_copyFrom k k2) s) (fun a => Q none a) → ((∀ x2 h, s = (10, [x2], [], [], h) → am_V RX2 cX2_copyFrom 3 (none) 0 0 0 0 none (am_Tm cX2_copyFrom (none) Q) 0 0 10 [some (am_r (.inr k) 11), some (am_r (.inr k2) 11), some (am_i x2)] [] h) ∧ (∀ x2 h, s = (62, [x2], [], [], h) → am_V RX2 cX2_copyFrom 3 (none) 0 0 0 0 none (am_Tm cX2_copyFrom (none) Q) 0 0 62 [some (am_r (.inr k) 11), some (am_r (.inr k2) 11), some (am_i x2)] [] h)) := by
  refine lp_ind _ _ (fun s H => ⟨fun x2 h e => ?_, fun x2 h e => ?_⟩)
  · subst e
    rw [s_X2_copyFrom] at H
    refine rl_i2 dX2_copyFrom_10 ?_
    refine rl_a0 dX2_copyFrom_11 ?_
    refine ar_getI dX2_copyFrom_12 fg_X2_24 rfl rfl (ok_P hk rfl) ?_
    refine ar_ic_ge 60 dX2_copyFrom_15 (by decide) (fun c1 => ?_) (fun c1 => ?_)
    · replace H := wp_t c1 H
      refine ar_iconst (iI (0)) dX2_copyFrom_60 rfl ?_
      refine rs_i2 dX2_copyFrom_61 rfl trivial ?_
      exact am_V.wk (am_s (am_s (am_s am_0))) ((lp_in H).2 _ _ rfl)
    · replace H := wp_f c1 H
      refine rl_a0 dX2_copyFrom_18 ?_
      refine rg_R (.inr k) 13 dX2_copyFrom_19 fg_X2_15 rfl rfl rfl (ok_P hk rfl) ?_
      refine rl_i2 dX2_copyFrom_22 ?_
      refine rl_a1 dX2_copyFrom_23 ?_
      refine rg_R (.inr k2) 13 dX2_copyFrom_24 fg_X2_15 rfl rfl rfl (ok_P hk2 rfl) ?_
      refine rl_i2 dX2_copyFrom_27 ?_
      obtain ⟨b1, H⟩ := wp_g H
      refine ar_iald dX2_copyFrom_28 rfl (ok_P hk2 rfl) (ib_in b1) ?_
      obtain ⟨b2, H⟩ := wp_g H
      refine ar_iast dX2_copyFrom_29 rfl (ok_P hk rfl) (ib_in b2) ?_
      replace H := wp_l H
      generalize am_u h (.inr k) 13 x2.toNatClampNeg (h.1 (.inr k2) 13 x2.toNatClampNeg) = h1 at H ⊢
      refine rl_a0 dX2_copyFrom_30 ?_
      refine rg_R (.inr k) 14 dX2_copyFrom_31 fg_X2_18 rfl rfl rfl (ok_P hk rfl) ?_
      refine rl_i2 dX2_copyFrom_34 ?_
      refine rl_a1 dX2_copyFrom_35 ?_
      refine rg_R (.inr k2) 14 dX2_copyFrom_36 fg_X2_18 rfl rfl rfl (ok_P hk2 rfl) ?_
      refine rl_i2 dX2_copyFrom_39 ?_
      obtain ⟨b3, H⟩ := wp_g H
      refine ar_iald dX2_copyFrom_40 rfl (ok_P hk2 rfl) (ib_in b3) ?_
      obtain ⟨b4, H⟩ := wp_g H
      refine ar_iast dX2_copyFrom_41 rfl (ok_P hk rfl) (ib_in b4) ?_
      replace H := wp_l H
      generalize am_u h1 (.inr k) 14 x2.toNatClampNeg (h1.1 (.inr k2) 14 x2.toNatClampNeg) = h2 at H ⊢
      refine rl_a0 dX2_copyFrom_42 ?_
      refine rg_R (.inr k) 15 dX2_copyFrom_43 fg_X2_21 rfl rfl rfl (ok_P hk rfl) ?_
      refine rl_i2 dX2_copyFrom_46 ?_
      refine rl_a1 dX2_copyFrom_47 ?_
      refine rg_R (.inr k2) 15 dX2_copyFrom_48 fg_X2_21 rfl rfl rfl (ok_P hk2 rfl) ?_
      refine rl_i2 dX2_copyFrom_51 ?_
      obtain ⟨b5, H⟩ := wp_g H
      refine ar_iald dX2_copyFrom_52 rfl (ok_P hk2 rfl) (ib_in b5) ?_
      obtain ⟨b6, H⟩ := wp_g H
      refine ar_iast dX2_copyFrom_53 rfl (ok_P hk rfl) (ib_in b6) ?_
      replace H := wp_l H
      generalize am_u h2 (.inr k) 15 x2.toNatClampNeg (h2.1 (.inr k2) 15 x2.toNatClampNeg) = h3 at H ⊢
      refine rn_1_2 dX2_copyFrom_54 rfl trivial ?_
      refine ar_goto 10 dX2_copyFrom_57 (by decide) ?_
      exact am_V.wk (am_s (am_s (am_s am_0))) ((lp_in H).1 _ _ rfl)
  · subst e
    rw [s_X2_copyFrom] at H
    refine rl_i2 dX2_copyFrom_62 ?_
    refine rl_a0 dX2_copyFrom_63 ?_
    refine ar_getI dX2_copyFrom_64 fg_X2_24 rfl rfl (ok_P hk rfl) ?_
    refine ar_bipush (iI (8)) dX2_copyFrom_67 rfl ?_
    refine ar_imul dX2_copyFrom_69 ?_
    refine ar_ic_ge 91 dX2_copyFrom_70 (by decide) (fun c1 => ?_) (fun c1 => ?_)
    · replace H := wp_t c1 H
      replace H := lp_re H
      exact ar_vret dX2_copyFrom_91 rfl H
    · replace H := wp_f c1 H
      refine rl_a0 dX2_copyFrom_73 ?_
      refine rg_R (.inr k) 12 dX2_copyFrom_74 fg_X2_9 rfl rfl rfl (ok_P hk rfl) ?_
      refine rl_i2 dX2_copyFrom_77 ?_
      refine rl_a1 dX2_copyFrom_78 ?_
      refine rg_R (.inr k2) 12 dX2_copyFrom_79 fg_X2_9 rfl rfl rfl (ok_P hk2 rfl) ?_
      refine rl_i2 dX2_copyFrom_82 ?_
      obtain ⟨b1, H⟩ := wp_g H
      refine ar_iald dX2_copyFrom_83 rfl (ok_P hk2 rfl) (ib_in b1) ?_
      obtain ⟨b2, H⟩ := wp_g H
      refine ar_iast dX2_copyFrom_84 rfl (ok_P hk rfl) (ib_in b2) ?_
      replace H := wp_l H
      generalize am_u h (.inr k) 12 x2.toNatClampNeg (h.1 (.inr k2) 12 x2.toNatClampNeg) = h1 at H ⊢
      refine rn_1_2 dX2_copyFrom_85 rfl trivial ?_
      refine ar_goto 62 dX2_copyFrom_88 (by decide) ?_
      exact am_V.wk (am_s (am_s (am_s am_0))) ((lp_in H).2 _ _ rfl)
theorem c_X2_copyFrom {k : Nat} (hk : k < 10) {k2 : Nat} (hk2 : k2 < 10) {h : am_H} {a : am_H} (e : f_X2_copyFrom k k2 h = some a) : am_Mv yX2_copyFrom cX2_copyFrom 3 (none) 0 0 [am_r (.inr k) 11, am_r (.inr k2) 11] h a := by
  refine am_M.ofv (A := [some (am_r (.inr k) 11), some (am_r (.inr k2) 11), none]) (by decide +kernel) rfl (ble rfl) (fun Q hQ => ?_)
  have H : wp (f_X2_copyFrom k k2 h) (fun a => Q none a) := ⟨_, e, hQ⟩
  unfold f_X2_copyFrom at H
  refine rl_a0 dX2_copyFrom_0 ?_
  refine rl_a1 dX2_copyFrom_1 ?_
  refine ar_getI dX2_copyFrom_2 fg_X2_24 rfl rfl (ok_P hk2 rfl) ?_
  refine ar_putI dX2_copyFrom_5 fg_X2_24 rfl rfl (ok_P hk rfl) rfl rfl ?_
  replace H := wp_l H
  generalize am_u h (.inr k) 11 4 (h.1 (.inr k2) 11 4) = h1 at H ⊢
  refine ar_iconst (iI (0)) dX2_copyFrom_8 rfl ?_
  refine rs_i2 dX2_copyFrom_9 rfl trivial ?_
  exact am_V.wk (am_s (am_s (am_s am_0))) ((c_X2_copyFrom_L hk hk2 _ H).1 _ _ rfl)
noncomputable def f_X2_nameByte (k : Nat) (x1 : Int32) (x2 : Int32) (h : am_H) : Option Int32 :=
  (f_X11_isWithin x2 (iI (0)) (iI (7))).bind (fun a1 => if a1 = 0 then (some ((iI (0)))) else (if ib ((x1 * (iI (8))) + x2) 48 then (some ((h.1 (.inr k) 12 (((x1 * (iI (8))) + x2)).toNatClampNeg))) else none))
theorem c_X2_nameByte {k : Nat} (hk : k < 10) {x1 : Int32} {x2 : Int32} {h : am_H} {a : Int32} (e : f_X2_nameByte k x1 x2 h = some a) : am_Mi yX2_nameByte cX2_nameByte 3 (some .int) 1 22 [am_r (.inr k) 11, am_i x1, am_i x2] h a h := by
  refine am_M.ofi (A := [some (am_r (.inr k) 11), some (am_i x1), some (am_i x2)]) (by decide +kernel) rfl (ble rfl) (fun Q hQ => ?_)
  have H : wp (f_X2_nameByte k x1 x2 h) (fun a => Q (some (am_i a)) h) := ⟨_, e, hQ⟩
  unfold f_X2_nameByte at H
  refine rl_i2 dX2_nameByte_0 ?_
  refine ar_iconst (iI (0)) dX2_nameByte_1 rfl ?_
  refine ar_bipush (iI (7)) dX2_nameByte_2 rfl ?_
  obtain ⟨a1, e1, H⟩ := wp_b H
  refine rc_N3i dX2_nameByte_4 ml_X2_28 mc_X11_isWithin (c_X11_isWithin e1) rfl rfl rfl ?_
  refine ar_if_eq 24 dX2_nameByte_7 (by decide) (fun c1 => ?_) (fun c1 => ?_)
  · replace H := wp_t c1 H
    refine ar_iconst (iI (0)) dX2_nameByte_24 rfl ?_
    replace H := wp_s H
    exact ar_iret dX2_nameByte_25 rfl rfl H
  · replace H := wp_f c1 H
    refine rl_a0 dX2_nameByte_10 ?_
    refine rg_R (.inr k) 12 dX2_nameByte_11 fg_X2_9 rfl rfl rfl (ok_P hk rfl) ?_
    refine rl_i1 dX2_nameByte_14 ?_
    refine ar_bipush (iI (8)) dX2_nameByte_15 rfl ?_
    refine ar_imul dX2_nameByte_17 ?_
    refine rl_i2 dX2_nameByte_18 ?_
    refine ar_iadd dX2_nameByte_19 ?_
    obtain ⟨b1, H⟩ := wp_g H
    refine ar_iald dX2_nameByte_20 rfl (ok_P hk rfl) (ib_in b1) ?_
    refine ar_goto 25 dX2_nameByte_21 (by decide) ?_
    replace H := wp_s H
    exact ar_iret dX2_nameByte_25 rfl rfl H
noncomputable def f_X10_byteAt (x1 : Int32) (h : am_H) : Option Int32 :=
  (f_X11_isWithin x1 (iI (0)) (iI (499))).bind (fun a1 => if a1 = 0 then (some ((iI (0)))) else (if ib x1 500 then (some ((h.1 (.inl 1) 9 x1.toNatClampNeg))) else none))
theorem c_X10_byteAt {x1 : Int32} {h : am_H} {a : Int32} (e : f_X10_byteAt x1 h = some a) : am_Mi yX10_byteAt cX10_byteAt 2 (some .int) 1 22 [am_r (.inl 1) 8, am_i x1] h a h := by
  refine am_M.ofi (A := [some (am_r (.inl 1) 8), some (am_i x1)]) (by decide +kernel) rfl (ble rfl) (fun Q hQ => ?_)
  have H : wp (f_X10_byteAt x1 h) (fun a => Q (some (am_i a)) h) := ⟨_, e, hQ⟩
  unfold f_X10_byteAt at H
  refine rl_i1 dX10_byteAt_0 ?_
  refine ar_iconst (iI (0)) dX10_byteAt_1 rfl ?_
  refine ar_sipush (iI (499)) dX10_byteAt_2 rfl ?_
  obtain ⟨a1, e1, H⟩ := wp_b H
  refine rc_N3i dX10_byteAt_5 ml_X10_22 mc_X11_isWithin (c_X11_isWithin e1) rfl rfl rfl ?_
  refine ar_if_eq 20 dX10_byteAt_8 (by decide) (fun c1 => ?_) (fun c1 => ?_)
  · replace H := wp_t c1 H
    refine ar_iconst (iI (0)) dX10_byteAt_20 rfl ?_
    replace H := wp_s H
    exact ar_iret dX10_byteAt_21 rfl rfl H
  · replace H := wp_f c1 H
    refine rl_a0 dX10_byteAt_11 ?_
    refine rg_R (.inl 1) 9 dX10_byteAt_12 fg_X10_9 rfl rfl rfl (ok_X rfl) ?_
    refine rl_i1 dX10_byteAt_15 ?_
    obtain ⟨b1, H⟩ := wp_g H
    refine ar_bald dX10_byteAt_16 rfl (ok_X rfl) (ib_in b1) ?_
    refine ar_goto 21 dX10_byteAt_17 (by decide) ?_
    replace H := wp_s H
    exact ar_iret dX10_byteAt_21 rfl rfl H
noncomputable def s_X2_beginKind (k : Nat) : am_S am_H → Option (am_S am_H ⊕ am_H) := fun s => match s with
  | (2, [x2], [], [], h) => if (iI (8)) ≤ x2 then (some (.inr (h))) else (if (iI (6)) ≤ (h.1 (.inr k) 11 4) then (some (.inr (h))) else (if (h.1 (.inl 1) 8 4) ≤ ((h.1 (.inl 1) 8 3) + x2) then (if ib (((h.1 (.inr k) 11 4) * (iI (8))) + x2) 48 then (am_lt (am_u h (.inr k) 12 (((((h.1 (.inr k) 11 4) * (iI (8))) + x2)).toNatClampNeg) (iI (0))) (fun h1 => some (.inl (2, [(x2 + 1)], [], [], h1)))) else none) else ((f_X10_byteAt ((h.1 (.inl 1) 8 3) + x2) h).bind (fun a1 => if ib (((h.1 (.inr k) 11 4) * (iI (8))) + x2) 48 then (am_lt (am_u h (.inr k) 12 (((((h.1 (.inr k) 11 4) * (iI (8))) + x2)).toNatClampNeg) a1) (fun h1 => some (.inl (2, [(x2 + 1)], [], [], h1)))) else none))))
  | _ => none
noncomputable def f_X2_beginKind_2 (k : Nat) (x2 : Int32) (h : am_H) : Option am_H := lp (s_X2_beginKind k) (2, [x2], [], [], h)
theorem e_X2_beginKind_2 (k : Nat) (x2 : Int32) (h : am_H) : f_X2_beginKind_2 k x2 h = (if (iI (8)) ≤ x2 then (some (h)) else (if (iI (6)) ≤ (h.1 (.inr k) 11 4) then (some (h)) else (if (h.1 (.inl 1) 8 4) ≤ ((h.1 (.inl 1) 8 3) + x2) then (if ib (((h.1 (.inr k) 11 4) * (iI (8))) + x2) 48 then (am_lt (am_u h (.inr k) 12 (((((h.1 (.inr k) 11 4) * (iI (8))) + x2)).toNatClampNeg) (iI (0))) (fun h1 => f_X2_beginKind_2 k (x2 + 1) h1)) else none) else ((f_X10_byteAt ((h.1 (.inl 1) 8 3) + x2) h).bind (fun a1 => if ib (((h.1 (.inr k) 11 4) * (iI (8))) + x2) 48 then (am_lt (am_u h (.inr k) 12 (((((h.1 (.inr k) 11 4) * (iI (8))) + x2)).toNatClampNeg) a1) (fun h1 => f_X2_beginKind_2 k (x2 + 1) h1)) else none))))) := by
  show lp _ _ = _
  rw [lp_eq, s_X2_beginKind]
  simp only [lpk_i, lpk_b, lpk_l, lpk_n, lpk_j, lpk_r] <;> rfl
noncomputable def f_X2_beginKind (k : Nat) (h : am_H) : Option am_H :=
  f_X2_beginKind_2 k (iI (0)) h
theorem c_X2_beginKind_L {k : Nat} (hk : k < 10) {Q : Option am_v → am_H → Prop} : ∀ s, wp (lp (s_X2_beginKind k) s) (fun a => Q none a) → ((∀ x2 h, s = (2, [x2], [], [], h) → am_V RX2 cX2_beginKind 4 (none) 2 43 0 0 none (am_Tm cX2_beginKind (none) Q) 0 0 2 [some (am_r (.inr k) 11), some (am_r (.inl 1) 8), some (am_i x2), none] [] h)) := by
  refine lp_ind _ _ (fun s H => fun x2 h e => ?_)
  · subst e
    rw [s_X2_beginKind] at H
    refine rl_i2 dX2_beginKind_2 ?_
    refine ar_bipush (iI (8)) dX2_beginKind_3 rfl ?_
    refine ar_ic_ge 61 dX2_beginKind_5 (by decide) (fun c1 => ?_) (fun c1 => ?_)
    · replace H := wp_t c1 H
      replace H := lp_re H
      exact ar_vret dX2_beginKind_61 rfl H
    · replace H := wp_f c1 H
      refine rl_a0 dX2_beginKind_8 ?_
      refine ar_getI dX2_beginKind_9 fg_X2_24 rfl rfl (ok_P hk rfl) ?_
      refine ar_bipush (iI (6)) dX2_beginKind_12 rfl ?_
      refine ar_ic_ge 61 dX2_beginKind_14 (by decide) (fun c2 => ?_) (fun c2 => ?_)
      · replace H := wp_t c2 H
        replace H := lp_re H
        exact ar_vret dX2_beginKind_61 rfl H
      · replace H := wp_f c2 H
        refine rl_a1 dX2_beginKind_17 ?_
        refine ar_getI dX2_beginKind_18 fg_X2_32 rfl rfl (ok_X rfl) ?_
        refine rl_i2 dX2_beginKind_21 ?_
        refine ar_iadd dX2_beginKind_22 ?_
        refine rs_i3 dX2_beginKind_23 rfl trivial ?_
        refine rl_a0 dX2_beginKind_24 ?_
        refine rg_R (.inr k) 12 dX2_beginKind_25 fg_X2_9 rfl rfl rfl (ok_P hk rfl) ?_
        refine rl_a0 dX2_beginKind_28 ?_
        refine ar_getI dX2_beginKind_29 fg_X2_24 rfl rfl (ok_P hk rfl) ?_
        refine ar_bipush (iI (8)) dX2_beginKind_32 rfl ?_
        refine ar_imul dX2_beginKind_34 ?_
        refine rl_i2 dX2_beginKind_35 ?_
        refine ar_iadd dX2_beginKind_36 ?_
        refine rl_i3 dX2_beginKind_37 ?_
        refine rl_a1 dX2_beginKind_38 ?_
        refine ar_getI dX2_beginKind_39 fg_X2_37 rfl rfl (ok_X rfl) ?_
        refine ar_ic_ge 53 dX2_beginKind_42 (by decide) (fun c3 => ?_) (fun c3 => ?_)
        · replace H := wp_t c3 H
          refine ar_iconst (iI (0)) dX2_beginKind_53 rfl ?_
          obtain ⟨b1, H⟩ := wp_g H
          refine ar_iast dX2_beginKind_54 rfl (ok_P hk rfl) (ib_in b1) ?_
          replace H := wp_l H
          generalize am_u h (.inr k) 12 (((((h.1 (.inr k) 11 4) * (iI (8))) + x2)).toNatClampNeg) (iI (0)) = h1 at H ⊢
          refine rn_1_2 dX2_beginKind_55 rfl trivial ?_
          refine ar_goto 2 dX2_beginKind_58 (by decide) ?_
          exact am_V.wk (am_s (am_s (am_s (am_n am_0)))) ((lp_in H) _ _ rfl)
        · replace H := wp_f c3 H
          refine rl_a1 dX2_beginKind_45 ?_
          refine rl_i3 dX2_beginKind_46 ?_
          obtain ⟨a1, e1, H⟩ := wp_b H
          refine rc_V1i dX2_beginKind_47 ml_X2_40 mc_X10_byteAt (c_X10_byteAt e1) rfl rfl rfl (ok_X rfl) rfl rfl rfl ?_
          refine ar_goto 54 dX2_beginKind_50 (by decide) ?_
          obtain ⟨b1, H⟩ := wp_g H
          refine ar_iast dX2_beginKind_54 rfl (ok_P hk rfl) (ib_in b1) ?_
          replace H := wp_l H
          generalize am_u h (.inr k) 12 (((((h.1 (.inr k) 11 4) * (iI (8))) + x2)).toNatClampNeg) a1 = h1 at H ⊢
          refine rn_1_2 dX2_beginKind_55 rfl trivial ?_
          refine ar_goto 2 dX2_beginKind_58 (by decide) ?_
          exact am_V.wk (am_s (am_s (am_s (am_n am_0)))) ((lp_in H) _ _ rfl)
theorem c_X2_beginKind {k : Nat} (hk : k < 10) {h : am_H} {a : am_H} (e : f_X2_beginKind k h = some a) : am_Mv yX2_beginKind cX2_beginKind 4 (none) 2 43 [am_r (.inr k) 11, am_r (.inl 1) 8] h a := by
  refine am_M.ofv (A := [some (am_r (.inr k) 11), some (am_r (.inl 1) 8), none, none]) (by decide +kernel) rfl (ble rfl) (fun Q hQ => ?_)
  have H : wp (f_X2_beginKind k h) (fun a => Q none a) := ⟨_, e, hQ⟩
  unfold f_X2_beginKind at H
  refine ar_iconst (iI (0)) dX2_beginKind_0 rfl ?_
  refine rs_i2 dX2_beginKind_1 rfl trivial ?_
  exact am_V.wk (am_s (am_s (am_s (am_n am_0)))) ((c_X2_beginKind_L hk _ H) _ _ rfl)
noncomputable def s_X2_isSameName (k : Nat) (h : am_H) : am_S Unit → Option (am_S Unit ⊕ Int32) := fun s => match s with
  | (2, [x1, x2, x3], [], [], ()) => if (iI (8)) ≤ x3 then (some (.inr ((iI (1))))) else ((f_X2_nameByte k x1 x3 h).bind (fun a1 => (f_X2_nameByte k x2 x3 h).bind (fun a2 => if a1 = a2 then (some (.inl (2, [x1, x2, (x3 + 1)], [], [], ()))) else (some (.inr ((iI (0))))))))
  | _ => none
noncomputable def f_X2_isSameName_2 (k : Nat) (x1 : Int32) (x2 : Int32) (x3 : Int32) (h : am_H) : Option Int32 := lp (s_X2_isSameName k h) (2, [x1, x2, x3], [], [], ())
theorem e_X2_isSameName_2 (k : Nat) (x1 : Int32) (x2 : Int32) (x3 : Int32) (h : am_H) : f_X2_isSameName_2 k x1 x2 x3 h = (if (iI (8)) ≤ x3 then (some ((iI (1)))) else ((f_X2_nameByte k x1 x3 h).bind (fun a1 => (f_X2_nameByte k x2 x3 h).bind (fun a2 => if a1 = a2 then (f_X2_isSameName_2 k x1 x2 (x3 + 1) h) else (some ((iI (0)))))))) := by
  show lp _ _ = _
  rw [lp_eq, s_X2_isSameName]
  simp only [lpk_i, lpk_b, lpk_l, lpk_n, lpk_j, lpk_r] <;> rfl
noncomputable def f_X2_isSameName (k : Nat) (x1 : Int32) (x2 : Int32) (h : am_H) : Option Int32 :=
  f_X2_isSameName_2 k x1 x2 (iI (0)) h
theorem c_X2_isSameName_L {k : Nat} (hk : k < 10) {h : am_H} {Q : Option am_v → am_H → Prop} : ∀ s, wp (lp (s_X2_isSameName k h) s) (fun a => Q (some (am_i a)) h) → ((∀ x1 x2 x3, s = (2, [x1, x2, x3], [], [], ()) → am_V RX2 cX2_isSameName 4 (some .boolean) 2 44 0 0 none (am_Tm cX2_isSameName (some .boolean) Q) 0 0 2 [some (am_r (.inr k) 11), some (am_i x1), some (am_i x2), some (am_i x3)] [] h)) := by
  refine lp_ind _ _ (fun s H => fun x1 x2 x3 e => ?_)
  · subst e
    rw [s_X2_isSameName] at H
    refine rl_i3 dX2_isSameName_2 ?_
    refine ar_bipush (iI (8)) dX2_isSameName_3 rfl ?_
    refine ar_ic_ge 31 dX2_isSameName_5 (by decide) (fun c1 => ?_) (fun c1 => ?_)
    · replace H := wp_t c1 H
      refine ar_iconst (iI (1)) dX2_isSameName_31 rfl ?_
      replace H := lp_re H
      exact ar_iret dX2_isSameName_32 rfl rfl H
    · replace H := wp_f c1 H
      refine rl_a0 dX2_isSameName_8 ?_
      refine rl_i1 dX2_isSameName_9 ?_
      refine rl_i3 dX2_isSameName_10 ?_
      obtain ⟨a1, e1, H⟩ := wp_b H
      refine rc_V2i dX2_isSameName_11 ml_X2_48 mc_X2_nameByte (c_X2_nameByte hk e1) rfl rfl rfl (ok_P hk rfl) rfl rfl rfl ?_
      refine rl_a0 dX2_isSameName_14 ?_
      refine rl_i2 dX2_isSameName_15 ?_
      refine rl_i3 dX2_isSameName_16 ?_
      obtain ⟨a2, e2, H⟩ := wp_b H
      refine rc_V2i dX2_isSameName_17 ml_X2_48 mc_X2_nameByte (c_X2_nameByte hk e2) rfl rfl rfl (ok_P hk rfl) rfl rfl rfl ?_
      refine ar_ic_eq 25 dX2_isSameName_20 (by decide) (fun c2 => ?_) (fun c2 => ?_)
      · replace H := wp_t c2 H
        refine rn_1_3 dX2_isSameName_25 rfl trivial ?_
        refine ar_goto 2 dX2_isSameName_28 (by decide) ?_
        exact am_V.wk (am_s (am_s (am_s (am_s am_0)))) ((lp_in H) _ _ _ rfl)
      · replace H := wp_f c2 H
        refine ar_iconst (iI (0)) dX2_isSameName_23 rfl ?_
        replace H := lp_re H
        exact ar_iret dX2_isSameName_24 rfl rfl H
theorem c_X2_isSameName {k : Nat} (hk : k < 10) {x1 : Int32} {x2 : Int32} {h : am_H} {a : Int32} (e : f_X2_isSameName k x1 x2 h = some a) : am_Mi yX2_isSameName cX2_isSameName 4 (some .boolean) 2 44 [am_r (.inr k) 11, am_i x1, am_i x2] h a h := by
  refine am_M.ofi (A := [some (am_r (.inr k) 11), some (am_i x1), some (am_i x2), none]) (by decide +kernel) rfl (ble rfl) (fun Q hQ => ?_)
  have H : wp (f_X2_isSameName k x1 x2 h) (fun a => Q (some (am_i a)) h) := ⟨_, e, hQ⟩
  unfold f_X2_isSameName at H
  refine ar_iconst (iI (0)) dX2_isSameName_0 rfl ?_
  refine rs_i3 dX2_isSameName_1 rfl trivial ?_
  exact am_V.wk (am_s (am_s (am_s (am_s am_0)))) ((c_X2_isSameName_L hk _ H) _ _ _ rfl)
noncomputable def s_X2_isBegunNameTaken (k : Nat) (h : am_H) : am_S Unit → Option (am_S Unit ⊕ Int32) := fun s => match s with
  | (2, [x1], [], [], ()) => if (h.1 (.inr k) 11 4) ≤ x1 then (some (.inr ((iI (0))))) else (if (iI (6)) ≤ (h.1 (.inr k) 11 4) then (some (.inr ((iI (0))))) else ((f_X2_isSameName k x1 (h.1 (.inr k) 11 4) h).bind (fun a1 => if a1 = 0 then (some (.inl (2, [(x1 + 1)], [], [], ()))) else (some (.inr ((iI (1))))))))
  | _ => none
noncomputable def f_X2_isBegunNameTaken_2 (k : Nat) (x1 : Int32) (h : am_H) : Option Int32 := lp (s_X2_isBegunNameTaken k h) (2, [x1], [], [], ())
theorem e_X2_isBegunNameTaken_2 (k : Nat) (x1 : Int32) (h : am_H) : f_X2_isBegunNameTaken_2 k x1 h = (if (h.1 (.inr k) 11 4) ≤ x1 then (some ((iI (0)))) else (if (iI (6)) ≤ (h.1 (.inr k) 11 4) then (some ((iI (0)))) else ((f_X2_isSameName k x1 (h.1 (.inr k) 11 4) h).bind (fun a1 => if a1 = 0 then (f_X2_isBegunNameTaken_2 k (x1 + 1) h) else (some ((iI (1)))))))) := by
  show lp _ _ = _
  rw [lp_eq, s_X2_isBegunNameTaken]
  simp only [lpk_i, lpk_b, lpk_l, lpk_n, lpk_j, lpk_r] <;> rfl
noncomputable def f_X2_isBegunNameTaken (k : Nat) (h : am_H) : Option Int32 :=
  f_X2_isBegunNameTaken_2 k (iI (0)) h
theorem c_X2_isBegunNameTaken_L {k : Nat} (hk : k < 10) {h : am_H} {Q : Option am_v → am_H → Prop} : ∀ s, wp (lp (s_X2_isBegunNameTaken k h) s) (fun a => Q (some (am_i a)) h) → ((∀ x1, s = (2, [x1], [], [], ()) → am_V RX2 cX2_isBegunNameTaken 2 (some .boolean) 3 67 0 0 none (am_Tm cX2_isBegunNameTaken (some .boolean) Q) 0 0 2 [some (am_r (.inr k) 11), some (am_i x1)] [] h)) := by
  refine lp_ind _ _ (fun s H => fun x1 e => ?_)
  · subst e
    rw [s_X2_isBegunNameTaken] at H
    refine rl_i1 dX2_isBegunNameTaken_2 ?_
    refine rl_a0 dX2_isBegunNameTaken_3 ?_
    refine ar_getI dX2_isBegunNameTaken_4 fg_X2_24 rfl rfl (ok_P hk rfl) ?_
    refine ar_ic_ge 39 dX2_isBegunNameTaken_7 (by decide) (fun c1 => ?_) (fun c1 => ?_)
    · replace H := wp_t c1 H
      refine ar_iconst (iI (0)) dX2_isBegunNameTaken_39 rfl ?_
      replace H := lp_re H
      exact ar_iret dX2_isBegunNameTaken_40 rfl rfl H
    · replace H := wp_f c1 H
      refine rl_a0 dX2_isBegunNameTaken_10 ?_
      refine ar_getI dX2_isBegunNameTaken_11 fg_X2_24 rfl rfl (ok_P hk rfl) ?_
      refine ar_bipush (iI (6)) dX2_isBegunNameTaken_14 rfl ?_
      refine ar_ic_ge 39 dX2_isBegunNameTaken_16 (by decide) (fun c2 => ?_) (fun c2 => ?_)
      · replace H := wp_t c2 H
        refine ar_iconst (iI (0)) dX2_isBegunNameTaken_39 rfl ?_
        replace H := lp_re H
        exact ar_iret dX2_isBegunNameTaken_40 rfl rfl H
      · replace H := wp_f c2 H
        refine rl_a0 dX2_isBegunNameTaken_19 ?_
        refine rl_i1 dX2_isBegunNameTaken_20 ?_
        refine rl_a0 dX2_isBegunNameTaken_21 ?_
        refine ar_getI dX2_isBegunNameTaken_22 fg_X2_24 rfl rfl (ok_P hk rfl) ?_
        obtain ⟨a1, e1, H⟩ := wp_b H
        refine rc_V2i dX2_isBegunNameTaken_25 ml_X2_44 mc_X2_isSameName (c_X2_isSameName hk e1) rfl rfl rfl (ok_P hk rfl) rfl rfl rfl ?_
        refine ar_if_eq 33 dX2_isBegunNameTaken_28 (by decide) (fun c3 => ?_) (fun c3 => ?_)
        · replace H := wp_t c3 H
          refine rn_1_1 dX2_isBegunNameTaken_33 rfl trivial ?_
          refine ar_goto 2 dX2_isBegunNameTaken_36 (by decide) ?_
          exact am_V.wk (am_s (am_s am_0)) ((lp_in H) _ rfl)
        · replace H := wp_f c3 H
          refine ar_iconst (iI (1)) dX2_isBegunNameTaken_31 rfl ?_
          replace H := lp_re H
          exact ar_iret dX2_isBegunNameTaken_32 rfl rfl H
theorem c_X2_isBegunNameTaken {k : Nat} (hk : k < 10) {h : am_H} {a : Int32} (e : f_X2_isBegunNameTaken k h = some a) : am_Mi yX2_isBegunNameTaken cX2_isBegunNameTaken 2 (some .boolean) 3 67 [am_r (.inr k) 11] h a h := by
  refine am_M.ofi (A := [some (am_r (.inr k) 11), none]) (by decide +kernel) rfl (ble rfl) (fun Q hQ => ?_)
  have H : wp (f_X2_isBegunNameTaken k h) (fun a => Q (some (am_i a)) h) := ⟨_, e, hQ⟩
  unfold f_X2_isBegunNameTaken at H
  refine ar_iconst (iI (0)) dX2_isBegunNameTaken_0 rfl ?_
  refine rs_i1 dX2_isBegunNameTaken_1 rfl trivial ?_
  exact am_V.wk (am_s (am_s am_0)) ((c_X2_isBegunNameTaken_L hk _ H) _ rfl)
noncomputable def f_X2_endKind (k : Nat) (x1 : Int32) (x2 : Int32) (x3 : Int32) (h : am_H) : Option am_H :=
  if (iI (6)) ≤ (h.1 (.inr k) 11 4) then (some (h)) else (if ib (h.1 (.inr k) 11 4) 6 then (am_lt (am_u h (.inr k) 13 (((h.1 (.inr k) 11 4)).toNatClampNeg) x1) (fun h1 => if ib (h1.1 (.inr k) 11 4) 6 then (am_lt (am_u h1 (.inr k) 14 (((h1.1 (.inr k) 11 4)).toNatClampNeg) x2) (fun h2 => if ib (h2.1 (.inr k) 11 4) 6 then (am_lt (am_u h2 (.inr k) 15 (((h2.1 (.inr k) 11 4)).toNatClampNeg) x3) (fun h3 => am_lt (am_u h3 (.inr k) 11 4 ((h3.1 (.inr k) 11 4) + (iI (1)))) (fun h4 => some (h4)))) else none)) else none)) else none)
theorem c_X2_endKind {k : Nat} (hk : k < 10) {x1 : Int32} {x2 : Int32} {x3 : Int32} {h : am_H} {a : am_H} (e : f_X2_endKind k x1 x2 x3 h = some a) : am_Mv yX2_endKind cX2_endKind 4 (none) 0 0 [am_r (.inr k) 11, am_i x1, am_i x2, am_i x3] h a := by
  refine am_M.ofv (A := [some (am_r (.inr k) 11), some (am_i x1), some (am_i x2), some (am_i x3)]) (by decide +kernel) rfl (ble rfl) (fun Q hQ => ?_)
  have H : wp (f_X2_endKind k x1 x2 x3 h) (fun a => Q none a) := ⟨_, e, hQ⟩
  unfold f_X2_endKind at H
  refine rl_a0 dX2_endKind_0 ?_
  refine ar_getI dX2_endKind_1 fg_X2_24 rfl rfl (ok_P hk rfl) ?_
  refine ar_bipush (iI (6)) dX2_endKind_4 rfl ?_
  refine ar_ic_ge 49 dX2_endKind_6 (by decide) (fun c1 => ?_) (fun c1 => ?_)
  · replace H := wp_t c1 H
    replace H := wp_s H
    exact ar_vret dX2_endKind_49 rfl H
  · replace H := wp_f c1 H
    refine rl_a0 dX2_endKind_9 ?_
    refine rg_R (.inr k) 13 dX2_endKind_10 fg_X2_15 rfl rfl rfl (ok_P hk rfl) ?_
    refine rl_a0 dX2_endKind_13 ?_
    refine ar_getI dX2_endKind_14 fg_X2_24 rfl rfl (ok_P hk rfl) ?_
    refine rl_i1 dX2_endKind_17 ?_
    obtain ⟨b1, H⟩ := wp_g H
    refine ar_iast dX2_endKind_18 rfl (ok_P hk rfl) (ib_in b1) ?_
    replace H := wp_l H
    generalize am_u h (.inr k) 13 (((h.1 (.inr k) 11 4)).toNatClampNeg) x1 = h1 at H ⊢
    refine rl_a0 dX2_endKind_19 ?_
    refine rg_R (.inr k) 14 dX2_endKind_20 fg_X2_18 rfl rfl rfl (ok_P hk rfl) ?_
    refine rl_a0 dX2_endKind_23 ?_
    refine ar_getI dX2_endKind_24 fg_X2_24 rfl rfl (ok_P hk rfl) ?_
    refine rl_i2 dX2_endKind_27 ?_
    obtain ⟨b2, H⟩ := wp_g H
    refine ar_iast dX2_endKind_28 rfl (ok_P hk rfl) (ib_in b2) ?_
    replace H := wp_l H
    generalize am_u h1 (.inr k) 14 (((h1.1 (.inr k) 11 4)).toNatClampNeg) x2 = h2 at H ⊢
    refine rl_a0 dX2_endKind_29 ?_
    refine rg_R (.inr k) 15 dX2_endKind_30 fg_X2_21 rfl rfl rfl (ok_P hk rfl) ?_
    refine rl_a0 dX2_endKind_33 ?_
    refine ar_getI dX2_endKind_34 fg_X2_24 rfl rfl (ok_P hk rfl) ?_
    refine rl_i3 dX2_endKind_37 ?_
    obtain ⟨b3, H⟩ := wp_g H
    refine ar_iast dX2_endKind_38 rfl (ok_P hk rfl) (ib_in b3) ?_
    replace H := wp_l H
    generalize am_u h2 (.inr k) 15 (((h2.1 (.inr k) 11 4)).toNatClampNeg) x3 = h3 at H ⊢
    refine rl_a0 dX2_endKind_39 ?_
    refine ar_dup dX2_endKind_40 trivial ?_
    refine ar_getI dX2_endKind_41 fg_X2_24 rfl rfl (ok_P hk rfl) ?_
    refine ar_iconst (iI (1)) dX2_endKind_44 rfl ?_
    refine ar_iadd dX2_endKind_45 ?_
    refine ar_putI dX2_endKind_46 fg_X2_24 rfl rfl (ok_P hk rfl) rfl rfl ?_
    replace H := wp_l H
    generalize am_u h3 (.inr k) 11 4 ((h3.1 (.inr k) 11 4) + (iI (1))) = h4 at H ⊢
    replace H := wp_s H
    exact ar_vret dX2_endKind_49 rfl H
noncomputable def f_X4_partsOf (k : Nat) (x1 : Int32) (h : am_H) : Option Int32 :=
  if ib x1 20 then (if ib (h.1 (.inr k) 7 x1.toNatClampNeg) 26 then (some (((iI (1000)) * (h.1 (.inr k) 10 ((h.1 (.inr k) 7 x1.toNatClampNeg)).toNatClampNeg)))) else none) else none
theorem c_X4_partsOf {k : Nat} (hk : k < 10) {x1 : Int32} {h : am_H} {a : Int32} (e : f_X4_partsOf k x1 h = some a) : am_Mi yX4_partsOf cX4_partsOf 2 (some .int) 0 0 [am_r (.inr k) 6, am_i x1] h a h := by
  refine am_M.ofi (A := [some (am_r (.inr k) 6), some (am_i x1)]) (by decide +kernel) rfl (ble rfl) (fun Q hQ => ?_)
  have H : wp (f_X4_partsOf k x1 h) (fun a => Q (some (am_i a)) h) := ⟨_, e, hQ⟩
  unfold f_X4_partsOf at H
  refine ar_sipush (iI (1000)) dX4_partsOf_0 rfl ?_
  refine rl_a0 dX4_partsOf_3 ?_
  refine rg_R (.inr k) 10 dX4_partsOf_4 fg_X4_22 rfl rfl rfl (ok_P hk rfl) ?_
  refine rl_a0 dX4_partsOf_7 ?_
  refine rg_R (.inr k) 7 dX4_partsOf_8 fg_X4_9 rfl rfl rfl (ok_P hk rfl) ?_
  refine rl_i1 dX4_partsOf_11 ?_
  obtain ⟨b1, H⟩ := wp_g H
  refine ar_iald dX4_partsOf_12 rfl (ok_P hk rfl) (ib_in b1) ?_
  obtain ⟨b2, H⟩ := wp_g H
  refine ar_iald dX4_partsOf_13 rfl (ok_P hk rfl) (ib_in b2) ?_
  refine ar_imul dX4_partsOf_14 ?_
  replace H := wp_s H
  exact ar_iret dX4_partsOf_15 rfl rfl H
noncomputable def s_X4_clear (k : Nat) : am_S am_H → Option (am_S am_H ⊕ am_H) := fun s => match s with
  | (7, [x1], [], [], h) => if (iI (26)) ≤ x1 then (some (.inr (h))) else (if ib x1 26 then (am_lt (am_u h (.inr k) 10 x1.toNatClampNeg (iI (4))) (fun h1 => some (.inl (7, [(x1 + 1)], [], [], h1)))) else none)
  | _ => none
noncomputable def f_X4_clear_7 (k : Nat) (x1 : Int32) (h : am_H) : Option am_H := lp (s_X4_clear k) (7, [x1], [], [], h)
theorem e_X4_clear_7 (k : Nat) (x1 : Int32) (h : am_H) : f_X4_clear_7 k x1 h = (if (iI (26)) ≤ x1 then (some (h)) else (if ib x1 26 then (am_lt (am_u h (.inr k) 10 x1.toNatClampNeg (iI (4))) (fun h1 => f_X4_clear_7 k (x1 + 1) h1)) else none)) := by
  show lp _ _ = _
  rw [lp_eq, s_X4_clear]
  simp only [lpk_i, lpk_b, lpk_l, lpk_n, lpk_j, lpk_r] <;> rfl
noncomputable def f_X4_clear (k : Nat) (h : am_H) : Option am_H :=
  am_lt (am_u h (.inr k) 6 4 (iI (0))) (fun h1 => f_X4_clear_7 k (iI (0)) h1)
theorem c_X4_clear_L {k : Nat} (hk : k < 10) {Q : Option am_v → am_H → Prop} : ∀ s, wp (lp (s_X4_clear k) s) (fun a => Q none a) → ((∀ x1 h, s = (7, [x1], [], [], h) → am_V RX4 cX4_clear 2 (none) 0 0 0 0 none (am_Tm cX4_clear (none) Q) 0 0 7 [some (am_r (.inr k) 6), some (am_i x1)] [] h)) := by
  refine lp_ind _ _ (fun s H => fun x1 h e => ?_)
  · subst e
    rw [s_X4_clear] at H
    refine rl_i1 dX4_clear_7 ?_
    refine ar_bipush (iI (26)) dX4_clear_8 rfl ?_
    refine ar_ic_ge 26 dX4_clear_10 (by decide) (fun c1 => ?_) (fun c1 => ?_)
    · replace H := wp_t c1 H
      replace H := lp_re H
      exact ar_vret dX4_clear_26 rfl H
    · replace H := wp_f c1 H
      refine rl_a0 dX4_clear_13 ?_
      refine rg_R (.inr k) 10 dX4_clear_14 fg_X4_22 rfl rfl rfl (ok_P hk rfl) ?_
      refine rl_i1 dX4_clear_17 ?_
      refine ar_iconst (iI (4)) dX4_clear_18 rfl ?_
      obtain ⟨b1, H⟩ := wp_g H
      refine ar_iast dX4_clear_19 rfl (ok_P hk rfl) (ib_in b1) ?_
      replace H := wp_l H
      generalize am_u h (.inr k) 10 x1.toNatClampNeg (iI (4)) = h1 at H ⊢
      refine rn_1_1 dX4_clear_20 rfl trivial ?_
      refine ar_goto 7 dX4_clear_23 (by decide) ?_
      exact am_V.wk (am_s (am_s am_0)) ((lp_in H) _ _ rfl)
theorem c_X4_clear {k : Nat} (hk : k < 10) {h : am_H} {a : am_H} (e : f_X4_clear k h = some a) : am_Mv yX4_clear cX4_clear 2 (none) 0 0 [am_r (.inr k) 6] h a := by
  refine am_M.ofv (A := [some (am_r (.inr k) 6), none]) (by decide +kernel) rfl (ble rfl) (fun Q hQ => ?_)
  have H : wp (f_X4_clear k h) (fun a => Q none a) := ⟨_, e, hQ⟩
  unfold f_X4_clear at H
  refine rl_a0 dX4_clear_0 ?_
  refine ar_iconst (iI (0)) dX4_clear_1 rfl ?_
  refine ar_putI dX4_clear_2 fg_X4_28 rfl rfl (ok_P hk rfl) rfl rfl ?_
  replace H := wp_l H
  generalize am_u h (.inr k) 6 4 (iI (0)) = h1 at H ⊢
  refine ar_iconst (iI (0)) dX4_clear_5 rfl ?_
  refine rs_i1 dX4_clear_6 rfl trivial ?_
  exact am_V.wk (am_s (am_s am_0)) ((c_X4_clear_L hk _ H) _ _ rfl)
noncomputable def s_X4_copyFrom (k : Nat) (k2 : Nat) : am_S am_H → Option (am_S am_H ⊕ am_H) := fun s => match s with
  | (10, [x2], [], [], h) => if (h.1 (.inr k) 6 4) ≤ x2 then (some (.inl (62, [(iI (0))], [], [], h))) else (if ib x2 20 then (if ib x2 20 then (am_lt (am_u h (.inr k) 7 x2.toNatClampNeg (h.1 (.inr k2) 7 x2.toNatClampNeg)) (fun h1 => if ib x2 20 then (if ib x2 20 then (am_lt (am_u h1 (.inr k) 8 x2.toNatClampNeg (vp_nar .boolean (h1.1 (.inr k2) 8 x2.toNatClampNeg))) (fun h2 => if ib x2 20 then (if ib x2 20 then (am_lt (am_u h2 (.inr k) 9 x2.toNatClampNeg (h2.1 (.inr k2) 9 x2.toNatClampNeg)) (fun h3 => some (.inl (10, [(x2 + 1)], [], [], h3)))) else none) else none)) else none) else none)) else none) else none)
  | (62, [x2], [], [], h) => if (iI (26)) ≤ x2 then (some (.inr (h))) else (if ib x2 26 then (if ib x2 26 then (am_lt (am_u h (.inr k) 10 x2.toNatClampNeg (h.1 (.inr k2) 10 x2.toNatClampNeg)) (fun h1 => some (.inl (62, [(x2 + 1)], [], [], h1)))) else none) else none)
  | _ => none
noncomputable def f_X4_copyFrom_10 (k : Nat) (k2 : Nat) (x2 : Int32) (h : am_H) : Option am_H := lp (s_X4_copyFrom k k2) (10, [x2], [], [], h)
noncomputable def f_X4_copyFrom_62 (k : Nat) (k2 : Nat) (x2 : Int32) (h : am_H) : Option am_H := lp (s_X4_copyFrom k k2) (62, [x2], [], [], h)
theorem e_X4_copyFrom_10 (k : Nat) (k2 : Nat) (x2 : Int32) (h : am_H) : f_X4_copyFrom_10 k k2 x2 h = (if (h.1 (.inr k) 6 4) ≤ x2 then (f_X4_copyFrom_62 k k2 (iI (0)) h) else (if ib x2 20 then (if ib x2 20 then (am_lt (am_u h (.inr k) 7 x2.toNatClampNeg (h.1 (.inr k2) 7 x2.toNatClampNeg)) (fun h1 => if ib x2 20 then (if ib x2 20 then (am_lt (am_u h1 (.inr k) 8 x2.toNatClampNeg (vp_nar .boolean (h1.1 (.inr k2) 8 x2.toNatClampNeg))) (fun h2 => if ib x2 20 then (if ib x2 20 then (am_lt (am_u h2 (.inr k) 9 x2.toNatClampNeg (h2.1 (.inr k2) 9 x2.toNatClampNeg)) (fun h3 => f_X4_copyFrom_10 k k2 (x2 + 1) h3)) else none) else none)) else none) else none)) else none) else none)) := by
  show lp _ _ = _
  rw [lp_eq, s_X4_copyFrom]
  simp only [lpk_i, lpk_b, lpk_l, lpk_n, lpk_j, lpk_r] <;> rfl
theorem e_X4_copyFrom_62 (k : Nat) (k2 : Nat) (x2 : Int32) (h : am_H) : f_X4_copyFrom_62 k k2 x2 h = (if (iI (26)) ≤ x2 then (some (h)) else (if ib x2 26 then (if ib x2 26 then (am_lt (am_u h (.inr k) 10 x2.toNatClampNeg (h.1 (.inr k2) 10 x2.toNatClampNeg)) (fun h1 => f_X4_copyFrom_62 k k2 (x2 + 1) h1)) else none) else none)) := by
  show lp _ _ = _
  rw [lp_eq, s_X4_copyFrom]
  simp only [lpk_i, lpk_b, lpk_l, lpk_n, lpk_j, lpk_r] <;> rfl
noncomputable def f_X4_copyFrom (k : Nat) (k2 : Nat) (h : am_H) : Option am_H :=
  am_lt (am_u h (.inr k) 6 4 (h.1 (.inr k2) 6 4)) (fun h1 => f_X4_copyFrom_10 k k2 (iI (0)) h1)
theorem c_X4_copyFrom_L {k : Nat} (hk : k < 10) {k2 : Nat} (hk2 : k2 < 10) {Q : Option am_v → am_H → Prop} : ∀ s, wp (lp (s_X4_copyFrom k k2) s) (fun a => Q none a) → ((∀ x2 h, s = (10, [x2], [], [], h) → am_V RX4 cX4_copyFrom 3 (none) 0 0 0 0 none (am_Tm cX4_copyFrom (none) Q) 0 0 10 [some (am_r (.inr k) 6), some (am_r (.inr k2) 6), some (am_i x2)] [] h) ∧ (∀ x2 h, s = (62, [x2], [], [], h) → am_V RX4 cX4_copyFrom 3 (none) 0 0 0 0 none (am_Tm cX4_copyFrom (none) Q) 0 0 62 [some (am_r (.inr k) 6), some (am_r (.inr k2) 6), some (am_i x2)] [] h)) := by
  refine lp_ind _ _ (fun s H => ⟨fun x2 h e => ?_, fun x2 h e => ?_⟩)
  · subst e
    rw [s_X4_copyFrom] at H
    refine rl_i2 dX4_copyFrom_10 ?_
    refine rl_a0 dX4_copyFrom_11 ?_
    refine ar_getI dX4_copyFrom_12 fg_X4_28 rfl rfl (ok_P hk rfl) ?_
    refine ar_ic_ge 60 dX4_copyFrom_15 (by decide) (fun c1 => ?_) (fun c1 => ?_)
    · replace H := wp_t c1 H
      refine ar_iconst (iI (0)) dX4_copyFrom_60 rfl ?_
      refine rs_i2 dX4_copyFrom_61 rfl trivial ?_
      exact am_V.wk (am_s (am_s (am_s am_0))) ((lp_in H).2 _ _ rfl)
    · replace H := wp_f c1 H
      refine rl_a0 dX4_copyFrom_18 ?_
      refine rg_R (.inr k) 7 dX4_copyFrom_19 fg_X4_9 rfl rfl rfl (ok_P hk rfl) ?_
      refine rl_i2 dX4_copyFrom_22 ?_
      refine rl_a1 dX4_copyFrom_23 ?_
      refine rg_R (.inr k2) 7 dX4_copyFrom_24 fg_X4_9 rfl rfl rfl (ok_P hk2 rfl) ?_
      refine rl_i2 dX4_copyFrom_27 ?_
      obtain ⟨b1, H⟩ := wp_g H
      refine ar_iald dX4_copyFrom_28 rfl (ok_P hk2 rfl) (ib_in b1) ?_
      obtain ⟨b2, H⟩ := wp_g H
      refine ar_iast dX4_copyFrom_29 rfl (ok_P hk rfl) (ib_in b2) ?_
      replace H := wp_l H
      generalize am_u h (.inr k) 7 x2.toNatClampNeg (h.1 (.inr k2) 7 x2.toNatClampNeg) = h1 at H ⊢
      refine rl_a0 dX4_copyFrom_30 ?_
      refine rg_R (.inr k) 8 dX4_copyFrom_31 fg_X4_15 rfl rfl rfl (ok_P hk rfl) ?_
      refine rl_i2 dX4_copyFrom_34 ?_
      refine rl_a1 dX4_copyFrom_35 ?_
      refine rg_R (.inr k2) 8 dX4_copyFrom_36 fg_X4_15 rfl rfl rfl (ok_P hk2 rfl) ?_
      refine rl_i2 dX4_copyFrom_39 ?_
      obtain ⟨b3, H⟩ := wp_g H
      refine ar_zald dX4_copyFrom_40 rfl (ok_P hk2 rfl) (ib_in b3) ?_
      obtain ⟨b4, H⟩ := wp_g H
      refine ar_zast dX4_copyFrom_41 rfl (ok_P hk rfl) (ib_in b4) ?_
      replace H := wp_l H
      generalize am_u h1 (.inr k) 8 x2.toNatClampNeg (vp_nar .boolean (h1.1 (.inr k2) 8 x2.toNatClampNeg)) = h2 at H ⊢
      refine rl_a0 dX4_copyFrom_42 ?_
      refine rg_R (.inr k) 9 dX4_copyFrom_43 fg_X4_19 rfl rfl rfl (ok_P hk rfl) ?_
      refine rl_i2 dX4_copyFrom_46 ?_
      refine rl_a1 dX4_copyFrom_47 ?_
      refine rg_R (.inr k2) 9 dX4_copyFrom_48 fg_X4_19 rfl rfl rfl (ok_P hk2 rfl) ?_
      refine rl_i2 dX4_copyFrom_51 ?_
      obtain ⟨b5, H⟩ := wp_g H
      refine ar_iald dX4_copyFrom_52 rfl (ok_P hk2 rfl) (ib_in b5) ?_
      obtain ⟨b6, H⟩ := wp_g H
      refine ar_iast dX4_copyFrom_53 rfl (ok_P hk rfl) (ib_in b6) ?_
      replace H := wp_l H
      generalize am_u h2 (.inr k) 9 x2.toNatClampNeg (h2.1 (.inr k2) 9 x2.toNatClampNeg) = h3 at H ⊢
      refine rn_1_2 dX4_copyFrom_54 rfl trivial ?_
      refine ar_goto 10 dX4_copyFrom_57 (by decide) ?_
      exact am_V.wk (am_s (am_s (am_s am_0))) ((lp_in H).1 _ _ rfl)
  · subst e
    rw [s_X4_copyFrom] at H
    refine rl_i2 dX4_copyFrom_62 ?_
    refine ar_bipush (iI (26)) dX4_copyFrom_63 rfl ?_
    refine ar_ic_ge 86 dX4_copyFrom_65 (by decide) (fun c1 => ?_) (fun c1 => ?_)
    · replace H := wp_t c1 H
      replace H := lp_re H
      exact ar_vret dX4_copyFrom_86 rfl H
    · replace H := wp_f c1 H
      refine rl_a0 dX4_copyFrom_68 ?_
      refine rg_R (.inr k) 10 dX4_copyFrom_69 fg_X4_22 rfl rfl rfl (ok_P hk rfl) ?_
      refine rl_i2 dX4_copyFrom_72 ?_
      refine rl_a1 dX4_copyFrom_73 ?_
      refine rg_R (.inr k2) 10 dX4_copyFrom_74 fg_X4_22 rfl rfl rfl (ok_P hk2 rfl) ?_
      refine rl_i2 dX4_copyFrom_77 ?_
      obtain ⟨b1, H⟩ := wp_g H
      refine ar_iald dX4_copyFrom_78 rfl (ok_P hk2 rfl) (ib_in b1) ?_
      obtain ⟨b2, H⟩ := wp_g H
      refine ar_iast dX4_copyFrom_79 rfl (ok_P hk rfl) (ib_in b2) ?_
      replace H := wp_l H
      generalize am_u h (.inr k) 10 x2.toNatClampNeg (h.1 (.inr k2) 10 x2.toNatClampNeg) = h1 at H ⊢
      refine rn_1_2 dX4_copyFrom_80 rfl trivial ?_
      refine ar_goto 62 dX4_copyFrom_83 (by decide) ?_
      exact am_V.wk (am_s (am_s (am_s am_0))) ((lp_in H).2 _ _ rfl)
theorem c_X4_copyFrom {k : Nat} (hk : k < 10) {k2 : Nat} (hk2 : k2 < 10) {h : am_H} {a : am_H} (e : f_X4_copyFrom k k2 h = some a) : am_Mv yX4_copyFrom cX4_copyFrom 3 (none) 0 0 [am_r (.inr k) 6, am_r (.inr k2) 6] h a := by
  refine am_M.ofv (A := [some (am_r (.inr k) 6), some (am_r (.inr k2) 6), none]) (by decide +kernel) rfl (ble rfl) (fun Q hQ => ?_)
  have H : wp (f_X4_copyFrom k k2 h) (fun a => Q none a) := ⟨_, e, hQ⟩
  unfold f_X4_copyFrom at H
  refine rl_a0 dX4_copyFrom_0 ?_
  refine rl_a1 dX4_copyFrom_1 ?_
  refine ar_getI dX4_copyFrom_2 fg_X4_28 rfl rfl (ok_P hk2 rfl) ?_
  refine ar_putI dX4_copyFrom_5 fg_X4_28 rfl rfl (ok_P hk rfl) rfl rfl ?_
  replace H := wp_l H
  generalize am_u h (.inr k) 6 4 (h.1 (.inr k2) 6 4) = h1 at H ⊢
  refine ar_iconst (iI (0)) dX4_copyFrom_8 rfl ?_
  refine rs_i2 dX4_copyFrom_9 rfl trivial ?_
  exact am_V.wk (am_s (am_s (am_s am_0))) ((c_X4_copyFrom_L hk hk2 _ H).1 _ _ rfl)
noncomputable def f_X10_placeAt (x1 : Int32) (h : am_H) : Option Int32 :=
  (f_X10_byteAt x1 h).bind (fun a1 => some ((a1 - (iI (97)))))
theorem c_X10_placeAt {x1 : Int32} {h : am_H} {a : Int32} (e : f_X10_placeAt x1 h = some a) : am_Mi yX10_placeAt cX10_placeAt 2 (some .int) 2 43 [am_r (.inl 1) 8, am_i x1] h a h := by
  refine am_M.ofi (A := [some (am_r (.inl 1) 8), some (am_i x1)]) (by decide +kernel) rfl (ble rfl) (fun Q hQ => ?_)
  have H : wp (f_X10_placeAt x1 h) (fun a => Q (some (am_i a)) h) := ⟨_, e, hQ⟩
  unfold f_X10_placeAt at H
  refine rl_a0 dX10_placeAt_0 ?_
  refine rl_i1 dX10_placeAt_1 ?_
  obtain ⟨a1, e1, H⟩ := wp_b H
  refine rc_V1i dX10_placeAt_2 ml_X10_26 mc_X10_byteAt (c_X10_byteAt e1) rfl rfl rfl (ok_X rfl) rfl rfl rfl ?_
  refine ar_bipush (iI (97)) dX10_placeAt_5 rfl ?_
  refine ar_isub dX10_placeAt_7 ?_
  replace H := wp_s H
  exact ar_iret dX10_placeAt_8 rfl rfl H
noncomputable def s_X4_addWord (k : Nat) : am_S am_H → Option (am_S am_H ⊕ am_H) := fun s => match s with
  | (3, [x3, x4], [], [], h) => if x3 ≤ x4 then (some (.inr (h))) else ((f_X10_placeAt x4 h).bind (fun a1 => if (iI (20)) ≤ (h.1 (.inr k) 6 4) then (some (.inl (3, [x3, (x4 + 1)], [], [], h))) else ((f_X11_isPlace a1).bind (fun a2 => if a2 = 0 then (some (.inl (3, [x3, (x4 + 1)], [], [], h))) else (if ib (h.1 (.inr k) 6 4) 20 then (am_lt (am_u h (.inr k) 7 (((h.1 (.inr k) 6 4)).toNatClampNeg) a1) (fun h1 => if ib (h1.1 (.inr k) 6 4) 20 then (am_lt (am_u h1 (.inr k) 8 (((h1.1 (.inr k) 6 4)).toNatClampNeg) (vp_nar .boolean (iI (0)))) (fun h2 => if ib (h2.1 (.inr k) 6 4) 20 then (am_lt (am_u h2 (.inr k) 9 (((h2.1 (.inr k) 6 4)).toNatClampNeg) (iI (0))) (fun h3 => am_lt (am_u h3 (.inr k) 6 4 ((h3.1 (.inr k) 6 4) + (iI (1)))) (fun h4 => some (.inl (3, [x3, (x4 + 1)], [], [], h4))))) else none)) else none)) else none)))))
  | _ => none
noncomputable def f_X4_addWord_3 (k : Nat) (x3 : Int32) (x4 : Int32) (h : am_H) : Option am_H := lp (s_X4_addWord k) (3, [x3, x4], [], [], h)
theorem e_X4_addWord_3 (k : Nat) (x3 : Int32) (x4 : Int32) (h : am_H) : f_X4_addWord_3 k x3 x4 h = (if x3 ≤ x4 then (some (h)) else ((f_X10_placeAt x4 h).bind (fun a1 => if (iI (20)) ≤ (h.1 (.inr k) 6 4) then (f_X4_addWord_3 k x3 (x4 + 1) h) else ((f_X11_isPlace a1).bind (fun a2 => if a2 = 0 then (f_X4_addWord_3 k x3 (x4 + 1) h) else (if ib (h.1 (.inr k) 6 4) 20 then (am_lt (am_u h (.inr k) 7 (((h.1 (.inr k) 6 4)).toNatClampNeg) a1) (fun h1 => if ib (h1.1 (.inr k) 6 4) 20 then (am_lt (am_u h1 (.inr k) 8 (((h1.1 (.inr k) 6 4)).toNatClampNeg) (vp_nar .boolean (iI (0)))) (fun h2 => if ib (h2.1 (.inr k) 6 4) 20 then (am_lt (am_u h2 (.inr k) 9 (((h2.1 (.inr k) 6 4)).toNatClampNeg) (iI (0))) (fun h3 => am_lt (am_u h3 (.inr k) 6 4 ((h3.1 (.inr k) 6 4) + (iI (1)))) (fun h4 => f_X4_addWord_3 k x3 (x4 + 1) h4))) else none)) else none)) else none)))))) := by
  show lp _ _ = _
  rw [lp_eq, s_X4_addWord]
  simp only [lpk_i, lpk_b, lpk_l, lpk_n, lpk_j, lpk_r] <;> rfl
noncomputable def f_X4_addWord (k : Nat) (x2 : Int32) (x3 : Int32) (h : am_H) : Option am_H :=
  f_X4_addWord_3 k x3 x2 h
theorem c_X4_addWord_L {k : Nat} (hk : k < 10) {Q : Option am_v → am_H → Prop} : ∀ s, wp (lp (s_X4_addWord k) s) (fun a => Q none a) → ((∀ x3 x4 h, s = (3, [x3, x4], [], [], h) → am_V RX4 cX4_addWord 6 (none) 3 64 0 0 none (am_Tm cX4_addWord (none) Q) 0 0 3 [some (am_r (.inr k) 6), some (am_r (.inl 1) 8), none, some (am_i x3), some (am_i x4), none] [] h)) := by
  refine lp_ind _ _ (fun s H => fun x3 x4 h e => ?_)
  · subst e
    rw [s_X4_addWord] at H
    refine rl_i4 dX4_addWord_3 ?_
    refine rl_i3 dX4_addWord_5 ?_
    refine ar_ic_ge 81 dX4_addWord_6 (by decide) (fun c1 => ?_) (fun c1 => ?_)
    · replace H := wp_t c1 H
      replace H := lp_re H
      exact ar_vret dX4_addWord_81 rfl H
    · replace H := wp_f c1 H
      refine rl_a1 dX4_addWord_9 ?_
      refine rl_i4 dX4_addWord_10 ?_
      obtain ⟨a1, e1, H⟩ := wp_b H
      refine rc_V1i dX4_addWord_12 ml_X4_32 mc_X10_placeAt (c_X10_placeAt e1) rfl rfl rfl (ok_X rfl) rfl rfl rfl ?_
      refine rs_i5 dX4_addWord_15 rfl trivial ?_
      refine rl_a0 dX4_addWord_17 ?_
      refine ar_getI dX4_addWord_18 fg_X4_28 rfl rfl (ok_P hk rfl) ?_
      refine ar_bipush (iI (20)) dX4_addWord_21 rfl ?_
      refine ar_ic_ge 75 dX4_addWord_23 (by decide) (fun c2 => ?_) (fun c2 => ?_)
      · replace H := wp_t c2 H
        refine rn_1_4 dX4_addWord_75 rfl trivial ?_
        refine ar_goto 3 dX4_addWord_78 (by decide) ?_
        exact am_V.wk (am_s (am_s (am_n (am_s (am_s (am_n am_0)))))) ((lp_in H) _ _ _ rfl)
      · replace H := wp_f c2 H
        refine rl_i5 dX4_addWord_26 ?_
        obtain ⟨a2, e2, H⟩ := wp_b H
        refine rc_N1i dX4_addWord_28 ml_X4_38 mc_X11_isPlace (c_X11_isPlace e2) rfl rfl rfl ?_
        refine ar_if_eq 75 dX4_addWord_31 (by decide) (fun c3 => ?_) (fun c3 => ?_)
        · replace H := wp_t c3 H
          refine rn_1_4 dX4_addWord_75 rfl trivial ?_
          refine ar_goto 3 dX4_addWord_78 (by decide) ?_
          exact am_V.wk (am_s (am_s (am_n (am_s (am_s (am_n am_0)))))) ((lp_in H) _ _ _ rfl)
        · replace H := wp_f c3 H
          refine rl_a0 dX4_addWord_34 ?_
          refine rg_R (.inr k) 7 dX4_addWord_35 fg_X4_9 rfl rfl rfl (ok_P hk rfl) ?_
          refine rl_a0 dX4_addWord_38 ?_
          refine ar_getI dX4_addWord_39 fg_X4_28 rfl rfl (ok_P hk rfl) ?_
          refine rl_i5 dX4_addWord_42 ?_
          obtain ⟨b1, H⟩ := wp_g H
          refine ar_iast dX4_addWord_44 rfl (ok_P hk rfl) (ib_in b1) ?_
          replace H := wp_l H
          generalize am_u h (.inr k) 7 (((h.1 (.inr k) 6 4)).toNatClampNeg) a1 = h1 at H ⊢
          refine rl_a0 dX4_addWord_45 ?_
          refine rg_R (.inr k) 8 dX4_addWord_46 fg_X4_15 rfl rfl rfl (ok_P hk rfl) ?_
          refine rl_a0 dX4_addWord_49 ?_
          refine ar_getI dX4_addWord_50 fg_X4_28 rfl rfl (ok_P hk rfl) ?_
          refine ar_iconst (iI (0)) dX4_addWord_53 rfl ?_
          obtain ⟨b2, H⟩ := wp_g H
          refine ar_zast dX4_addWord_54 rfl (ok_P hk rfl) (ib_in b2) ?_
          replace H := wp_l H
          generalize am_u h1 (.inr k) 8 (((h1.1 (.inr k) 6 4)).toNatClampNeg) (vp_nar .boolean (iI (0))) = h2 at H ⊢
          refine rl_a0 dX4_addWord_55 ?_
          refine rg_R (.inr k) 9 dX4_addWord_56 fg_X4_19 rfl rfl rfl (ok_P hk rfl) ?_
          refine rl_a0 dX4_addWord_59 ?_
          refine ar_getI dX4_addWord_60 fg_X4_28 rfl rfl (ok_P hk rfl) ?_
          refine ar_iconst (iI (0)) dX4_addWord_63 rfl ?_
          obtain ⟨b3, H⟩ := wp_g H
          refine ar_iast dX4_addWord_64 rfl (ok_P hk rfl) (ib_in b3) ?_
          replace H := wp_l H
          generalize am_u h2 (.inr k) 9 (((h2.1 (.inr k) 6 4)).toNatClampNeg) (iI (0)) = h3 at H ⊢
          refine rl_a0 dX4_addWord_65 ?_
          refine ar_dup dX4_addWord_66 trivial ?_
          refine ar_getI dX4_addWord_67 fg_X4_28 rfl rfl (ok_P hk rfl) ?_
          refine ar_iconst (iI (1)) dX4_addWord_70 rfl ?_
          refine ar_iadd dX4_addWord_71 ?_
          refine ar_putI dX4_addWord_72 fg_X4_28 rfl rfl (ok_P hk rfl) rfl rfl ?_
          replace H := wp_l H
          generalize am_u h3 (.inr k) 6 4 ((h3.1 (.inr k) 6 4) + (iI (1))) = h4 at H ⊢
          refine rn_1_4 dX4_addWord_75 rfl trivial ?_
          refine ar_goto 3 dX4_addWord_78 (by decide) ?_
          exact am_V.wk (am_s (am_s (am_n (am_s (am_s (am_n am_0)))))) ((lp_in H) _ _ _ rfl)
theorem c_X4_addWord {k : Nat} (hk : k < 10) {x2 : Int32} {x3 : Int32} {h : am_H} {a : am_H} (e : f_X4_addWord k x2 x3 h = some a) : am_Mv yX4_addWord cX4_addWord 6 (none) 3 64 [am_r (.inr k) 6, am_r (.inl 1) 8, am_i x2, am_i x3] h a := by
  refine am_M.ofv (A := [some (am_r (.inr k) 6), some (am_r (.inl 1) 8), some (am_i x2), some (am_i x3), none, none]) (by decide +kernel) rfl (ble rfl) (fun Q hQ => ?_)
  have H : wp (f_X4_addWord k x2 x3 h) (fun a => Q none a) := ⟨_, e, hQ⟩
  unfold f_X4_addWord at H
  refine rl_i2 dX4_addWord_0 ?_
  refine rs_i4 dX4_addWord_1 rfl trivial ?_
  exact am_V.wk (am_s (am_s (am_n (am_s (am_s (am_n am_0)))))) ((c_X4_addWord_L hk _ H) _ _ _ rfl)
noncomputable def s_X4_widenWord (k : Nat) : am_S am_H → Option (am_S am_H ⊕ am_H) := fun s => match s with
  | (3, [x3, x4, x5], [], [], h) => if x3 ≤ x5 then (some (.inr (h))) else ((f_X10_placeAt x5 h).bind (fun a1 => (f_X11_isPlace a1).bind (fun a2 => if a2 = 0 then (some (.inl (3, [x3, x4, (x5 + 1)], [], [], h))) else (if ib a1 26 then (am_lt (am_u h (.inr k) 10 a1.toNatClampNeg x4) (fun h1 => some (.inl (3, [x3, x4, (x5 + 1)], [], [], h1)))) else none))))
  | _ => none
noncomputable def f_X4_widenWord_3 (k : Nat) (x3 : Int32) (x4 : Int32) (x5 : Int32) (h : am_H) : Option am_H := lp (s_X4_widenWord k) (3, [x3, x4, x5], [], [], h)
theorem e_X4_widenWord_3 (k : Nat) (x3 : Int32) (x4 : Int32) (x5 : Int32) (h : am_H) : f_X4_widenWord_3 k x3 x4 x5 h = (if x3 ≤ x5 then (some (h)) else ((f_X10_placeAt x5 h).bind (fun a1 => (f_X11_isPlace a1).bind (fun a2 => if a2 = 0 then (f_X4_widenWord_3 k x3 x4 (x5 + 1) h) else (if ib a1 26 then (am_lt (am_u h (.inr k) 10 a1.toNatClampNeg x4) (fun h1 => f_X4_widenWord_3 k x3 x4 (x5 + 1) h1)) else none))))) := by
  show lp _ _ = _
  rw [lp_eq, s_X4_widenWord]
  simp only [lpk_i, lpk_b, lpk_l, lpk_n, lpk_j, lpk_r] <;> rfl
noncomputable def f_X4_widenWord (k : Nat) (x2 : Int32) (x3 : Int32) (x4 : Int32) (h : am_H) : Option am_H :=
  f_X4_widenWord_3 k x3 x4 x2 h
theorem c_X4_widenWord_L {k : Nat} (hk : k < 10) {Q : Option am_v → am_H → Prop} : ∀ s, wp (lp (s_X4_widenWord k) s) (fun a => Q none a) → ((∀ x3 x4 x5 h, s = (3, [x3, x4, x5], [], [], h) → am_V RX4 cX4_widenWord 7 (none) 3 64 0 0 none (am_Tm cX4_widenWord (none) Q) 0 0 3 [some (am_r (.inr k) 6), some (am_r (.inl 1) 8), none, some (am_i x3), some (am_i x4), some (am_i x5), none] [] h)) := by
  refine lp_ind _ _ (fun s H => fun x3 x4 x5 h e => ?_)
  · subst e
    rw [s_X4_widenWord] at H
    refine rl_i5 dX4_widenWord_3 ?_
    refine rl_i3 dX4_widenWord_5 ?_
    refine ar_ic_ge 40 dX4_widenWord_6 (by decide) (fun c1 => ?_) (fun c1 => ?_)
    · replace H := wp_t c1 H
      replace H := lp_re H
      exact ar_vret dX4_widenWord_40 rfl H
    · replace H := wp_f c1 H
      refine rl_a1 dX4_widenWord_9 ?_
      refine rl_i5 dX4_widenWord_10 ?_
      obtain ⟨a1, e1, H⟩ := wp_b H
      refine rc_V1i dX4_widenWord_12 ml_X4_32 mc_X10_placeAt (c_X10_placeAt e1) rfl rfl rfl (ok_X rfl) rfl rfl rfl ?_
      refine rs_i6 dX4_widenWord_15 rfl trivial ?_
      refine rl_i6 dX4_widenWord_17 ?_
      obtain ⟨a2, e2, H⟩ := wp_b H
      refine rc_N1i dX4_widenWord_19 ml_X4_38 mc_X11_isPlace (c_X11_isPlace e2) rfl rfl rfl ?_
      refine ar_if_eq 34 dX4_widenWord_22 (by decide) (fun c2 => ?_) (fun c2 => ?_)
      · replace H := wp_t c2 H
        refine rn_1_5 dX4_widenWord_34 rfl trivial ?_
        refine ar_goto 3 dX4_widenWord_37 (by decide) ?_
        exact am_V.wk (am_s (am_s (am_n (am_s (am_s (am_s (am_n am_0))))))) ((lp_in H) _ _ _ _ rfl)
      · replace H := wp_f c2 H
        refine rl_a0 dX4_widenWord_25 ?_
        refine rg_R (.inr k) 10 dX4_widenWord_26 fg_X4_22 rfl rfl rfl (ok_P hk rfl) ?_
        refine rl_i6 dX4_widenWord_29 ?_
        refine rl_i4 dX4_widenWord_31 ?_
        obtain ⟨b1, H⟩ := wp_g H
        refine ar_iast dX4_widenWord_33 rfl (ok_P hk rfl) (ib_in b1) ?_
        replace H := wp_l H
        generalize am_u h (.inr k) 10 a1.toNatClampNeg x4 = h1 at H ⊢
        refine rn_1_5 dX4_widenWord_34 rfl trivial ?_
        refine ar_goto 3 dX4_widenWord_37 (by decide) ?_
        exact am_V.wk (am_s (am_s (am_n (am_s (am_s (am_s (am_n am_0))))))) ((lp_in H) _ _ _ _ rfl)
theorem c_X4_widenWord {k : Nat} (hk : k < 10) {x2 : Int32} {x3 : Int32} {x4 : Int32} {h : am_H} {a : am_H} (e : f_X4_widenWord k x2 x3 x4 h = some a) : am_Mv yX4_widenWord cX4_widenWord 7 (none) 3 64 [am_r (.inr k) 6, am_r (.inl 1) 8, am_i x2, am_i x3, am_i x4] h a := by
  refine am_M.ofv (A := [some (am_r (.inr k) 6), some (am_r (.inl 1) 8), some (am_i x2), some (am_i x3), some (am_i x4), none, none]) (by decide +kernel) rfl (ble rfl) (fun Q hQ => ?_)
  have H : wp (f_X4_widenWord k x2 x3 x4 h) (fun a => Q none a) := ⟨_, e, hQ⟩
  unfold f_X4_widenWord at H
  refine rl_i2 dX4_widenWord_0 ?_
  refine rs_i5 dX4_widenWord_1 rfl trivial ?_
  exact am_V.wk (am_s (am_s (am_n (am_s (am_s (am_s (am_n am_0))))))) ((c_X4_widenWord_L hk _ H) _ _ _ _ rfl)
noncomputable def f_X4_strokesOf (k : Nat) (x1 : Int32) (h : am_H) : Option Int32 :=
  if ib x1 20 then (if (iI (4)) = 0 then none else (some (((iI (1)) + ((h.1 (.inr k) 7 x1.toNatClampNeg) - (h.1 (.inr k) 7 x1.toNatClampNeg) / (iI (4)) * (iI (4))))))) else none
theorem c_X4_strokesOf {k : Nat} (hk : k < 10) {x1 : Int32} {h : am_H} {a : Int32} (e : f_X4_strokesOf k x1 h = some a) : am_Mi yX4_strokesOf cX4_strokesOf 2 (some .int) 0 0 [am_r (.inr k) 6, am_i x1] h a h := by
  refine am_M.ofi (A := [some (am_r (.inr k) 6), some (am_i x1)]) (by decide +kernel) rfl (ble rfl) (fun Q hQ => ?_)
  have H : wp (f_X4_strokesOf k x1 h) (fun a => Q (some (am_i a)) h) := ⟨_, e, hQ⟩
  unfold f_X4_strokesOf at H
  refine ar_iconst (iI (1)) dX4_strokesOf_0 rfl ?_
  refine rl_a0 dX4_strokesOf_1 ?_
  refine rg_R (.inr k) 7 dX4_strokesOf_2 fg_X4_9 rfl rfl rfl (ok_P hk rfl) ?_
  refine rl_i1 dX4_strokesOf_5 ?_
  obtain ⟨b1, H⟩ := wp_g H
  refine ar_iald dX4_strokesOf_6 rfl (ok_P hk rfl) (ib_in b1) ?_
  refine ar_iconst (iI (4)) dX4_strokesOf_7 rfl ?_
  obtain ⟨b2, H⟩ := wp_d H
  refine ar_irem dX4_strokesOf_8 b2 ?_
  refine ar_iadd dX4_strokesOf_9 ?_
  replace H := wp_s H
  exact ar_iret dX4_strokesOf_10 rfl rfl H
noncomputable def s_X4_engravedLetters (k : Nat) (h : am_H) : am_S Unit → Option (am_S Unit ⊕ Int32) := fun s => match s with
  | (4, [x1, x2], [], [], ()) => if (h.1 (.inr k) 6 4) ≤ x2 then (some (.inr (x1))) else (if ib x2 20 then (if (h.1 (.inr k) 8 x2.toNatClampNeg) = 0 then (some (.inl (4, [x1, (x2 + 1)], [], [], ()))) else (some (.inl (4, [(x1 + 1), (x2 + 1)], [], [], ())))) else none)
  | _ => none
noncomputable def f_X4_engravedLetters_4 (k : Nat) (x1 : Int32) (x2 : Int32) (h : am_H) : Option Int32 := lp (s_X4_engravedLetters k h) (4, [x1, x2], [], [], ())
theorem e_X4_engravedLetters_4 (k : Nat) (x1 : Int32) (x2 : Int32) (h : am_H) : f_X4_engravedLetters_4 k x1 x2 h = (if (h.1 (.inr k) 6 4) ≤ x2 then (some (x1)) else (if ib x2 20 then (if (h.1 (.inr k) 8 x2.toNatClampNeg) = 0 then (f_X4_engravedLetters_4 k x1 (x2 + 1) h) else (f_X4_engravedLetters_4 k (x1 + 1) (x2 + 1) h)) else none)) := by
  show lp _ _ = _
  rw [lp_eq, s_X4_engravedLetters]
  simp only [lpk_i, lpk_b, lpk_l, lpk_n, lpk_j, lpk_r] <;> rfl
noncomputable def f_X4_engravedLetters (k : Nat) (h : am_H) : Option Int32 :=
  f_X4_engravedLetters_4 k (iI (0)) (iI (0)) h
theorem c_X4_engravedLetters_L {k : Nat} (hk : k < 10) {h : am_H} {Q : Option am_v → am_H → Prop} : ∀ s, wp (lp (s_X4_engravedLetters k h) s) (fun a => Q (some (am_i a)) h) → ((∀ x1 x2, s = (4, [x1, x2], [], [], ()) → am_V RX4 cX4_engravedLetters 3 (some .int) 0 0 0 0 none (am_Tm cX4_engravedLetters (some .int) Q) 0 0 4 [some (am_r (.inr k) 6), some (am_i x1), some (am_i x2)] [] h)) := by
  refine lp_ind _ _ (fun s H => fun x1 x2 e => ?_)
  · subst e
    rw [s_X4_engravedLetters] at H
    refine rl_i2 dX4_engravedLetters_4 ?_
    refine rl_a0 dX4_engravedLetters_5 ?_
    refine ar_getI dX4_engravedLetters_6 fg_X4_28 rfl rfl (ok_P hk rfl) ?_
    refine ar_ic_ge 30 dX4_engravedLetters_9 (by decide) (fun c1 => ?_) (fun c1 => ?_)
    · replace H := wp_t c1 H
      refine rl_i1 dX4_engravedLetters_30 ?_
      replace H := lp_re H
      exact ar_iret dX4_engravedLetters_31 rfl rfl H
    · replace H := wp_f c1 H
      refine rl_a0 dX4_engravedLetters_12 ?_
      refine rg_R (.inr k) 8 dX4_engravedLetters_13 fg_X4_15 rfl rfl rfl (ok_P hk rfl) ?_
      refine rl_i2 dX4_engravedLetters_16 ?_
      obtain ⟨b1, H⟩ := wp_g H
      refine ar_zald dX4_engravedLetters_17 rfl (ok_P hk rfl) (ib_in b1) ?_
      refine ar_if_eq 24 dX4_engravedLetters_18 (by decide) (fun c2 => ?_) (fun c2 => ?_)
      · replace H := wp_t c2 H
        refine rn_1_2 dX4_engravedLetters_24 rfl trivial ?_
        refine ar_goto 4 dX4_engravedLetters_27 (by decide) ?_
        exact am_V.wk (am_s (am_s (am_s am_0))) ((lp_in H) _ _ rfl)
      · replace H := wp_f c2 H
        refine rn_1_1 dX4_engravedLetters_21 rfl trivial ?_
        refine rn_1_2 dX4_engravedLetters_24 rfl trivial ?_
        refine ar_goto 4 dX4_engravedLetters_27 (by decide) ?_
        exact am_V.wk (am_s (am_s (am_s am_0))) ((lp_in H) _ _ rfl)
theorem c_X4_engravedLetters {k : Nat} (hk : k < 10) {h : am_H} {a : Int32} (e : f_X4_engravedLetters k h = some a) : am_Mi yX4_engravedLetters cX4_engravedLetters 3 (some .int) 0 0 [am_r (.inr k) 6] h a h := by
  refine am_M.ofi (A := [some (am_r (.inr k) 6), none, none]) (by decide +kernel) rfl (ble rfl) (fun Q hQ => ?_)
  have H : wp (f_X4_engravedLetters k h) (fun a => Q (some (am_i a)) h) := ⟨_, e, hQ⟩
  unfold f_X4_engravedLetters at H
  refine ar_iconst (iI (0)) dX4_engravedLetters_0 rfl ?_
  refine rs_i1 dX4_engravedLetters_1 rfl trivial ?_
  refine ar_iconst (iI (0)) dX4_engravedLetters_2 rfl ?_
  refine rs_i2 dX4_engravedLetters_3 rfl trivial ?_
  exact am_V.wk (am_s (am_s (am_s am_0))) ((c_X4_engravedLetters_L hk _ H) _ _ rfl)
noncomputable def s_X10_endOfBlanks  (h : am_H) : am_S Unit → Option (am_S Unit ⊕ Int32) := fun s => match s with
  | (2, [x2], [], [], ()) => if (h.1 (.inl 1) 8 1) ≤ x2 then (some (.inr (x2))) else (if ib x2 500 then (if (h.1 (.inl 1) 9 x2.toNatClampNeg) = (iI (32)) then (some (.inl (2, [(x2 + 1)], [], [], ()))) else (if ib x2 500 then (if (h.1 (.inl 1) 9 x2.toNatClampNeg) = (iI (10)) then (some (.inl (2, [(x2 + 1)], [], [], ()))) else (some (.inr (x2)))) else none)) else none)
  | _ => none
noncomputable def f_X10_endOfBlanks_2  (x2 : Int32) (h : am_H) : Option Int32 := lp (s_X10_endOfBlanks h) (2, [x2], [], [], ())
theorem e_X10_endOfBlanks_2  (x2 : Int32) (h : am_H) : f_X10_endOfBlanks_2 x2 h = (if (h.1 (.inl 1) 8 1) ≤ x2 then (some (x2)) else (if ib x2 500 then (if (h.1 (.inl 1) 9 x2.toNatClampNeg) = (iI (32)) then (f_X10_endOfBlanks_2 (x2 + 1) h) else (if ib x2 500 then (if (h.1 (.inl 1) 9 x2.toNatClampNeg) = (iI (10)) then (f_X10_endOfBlanks_2 (x2 + 1) h) else (some (x2))) else none)) else none)) := by
  show lp _ _ = _
  rw [lp_eq, s_X10_endOfBlanks]
  simp only [lpk_i, lpk_b, lpk_l, lpk_n, lpk_j, lpk_r] <;> rfl
noncomputable def f_X10_endOfBlanks (x1 : Int32) (h : am_H) : Option Int32 :=
  f_X10_endOfBlanks_2 x1 h
theorem c_X10_endOfBlanks_L  {h : am_H} {Q : Option am_v → am_H → Prop} : ∀ s, wp (lp (s_X10_endOfBlanks h) s) (fun a => Q (some (am_i a)) h) → ((∀ x2, s = (2, [x2], [], [], ()) → am_V RX10 cX10_endOfBlanks 3 (some .int) 0 0 0 0 none (am_Tm cX10_endOfBlanks (some .int) Q) 0 0 2 [some (am_r (.inl 1) 8), none, some (am_i x2)] [] h)) := by
  refine lp_ind _ _ (fun s H => fun x2 e => ?_)
  · subst e
    rw [s_X10_endOfBlanks] at H
    refine rl_i2 dX10_endOfBlanks_2 ?_
    refine rl_a0 dX10_endOfBlanks_3 ?_
    refine ar_getI dX10_endOfBlanks_4 fg_X10_19 rfl rfl (ok_X rfl) ?_
    refine ar_ic_ge 38 dX10_endOfBlanks_7 (by decide) (fun c1 => ?_) (fun c1 => ?_)
    · replace H := wp_t c1 H
      refine rl_i2 dX10_endOfBlanks_38 ?_
      replace H := lp_re H
      exact ar_iret dX10_endOfBlanks_39 rfl rfl H
    · replace H := wp_f c1 H
      refine rl_a0 dX10_endOfBlanks_10 ?_
      refine rg_R (.inl 1) 9 dX10_endOfBlanks_11 fg_X10_9 rfl rfl rfl (ok_X rfl) ?_
      refine rl_i2 dX10_endOfBlanks_14 ?_
      obtain ⟨b1, H⟩ := wp_g H
      refine ar_bald dX10_endOfBlanks_15 rfl (ok_X rfl) (ib_in b1) ?_
      refine ar_bipush (iI (32)) dX10_endOfBlanks_16 rfl ?_
      refine ar_ic_eq 32 dX10_endOfBlanks_18 (by decide) (fun c2 => ?_) (fun c2 => ?_)
      · replace H := wp_t c2 H
        refine rn_1_2 dX10_endOfBlanks_32 rfl trivial ?_
        refine ar_goto 2 dX10_endOfBlanks_35 (by decide) ?_
        exact am_V.wk (am_s (am_n (am_s am_0))) ((lp_in H) _ rfl)
      · replace H := wp_f c2 H
        refine rl_a0 dX10_endOfBlanks_21 ?_
        refine rg_R (.inl 1) 9 dX10_endOfBlanks_22 fg_X10_9 rfl rfl rfl (ok_X rfl) ?_
        refine rl_i2 dX10_endOfBlanks_25 ?_
        obtain ⟨b2, H⟩ := wp_g H
        refine ar_bald dX10_endOfBlanks_26 rfl (ok_X rfl) (ib_in b2) ?_
        refine ar_bipush (iI (10)) dX10_endOfBlanks_27 rfl ?_
        refine ar_ic_ne 38 dX10_endOfBlanks_29 (by decide) (fun c3 => ?_) (fun c3 => ?_)
        · replace H := wp_f c3 H
          refine rl_i2 dX10_endOfBlanks_38 ?_
          replace H := lp_re H
          exact ar_iret dX10_endOfBlanks_39 rfl rfl H
        · replace H := wp_t c3 H
          refine rn_1_2 dX10_endOfBlanks_32 rfl trivial ?_
          refine ar_goto 2 dX10_endOfBlanks_35 (by decide) ?_
          exact am_V.wk (am_s (am_n (am_s am_0))) ((lp_in H) _ rfl)
theorem c_X10_endOfBlanks {x1 : Int32} {h : am_H} {a : Int32} (e : f_X10_endOfBlanks x1 h = some a) : am_Mi yX10_endOfBlanks cX10_endOfBlanks 3 (some .int) 0 0 [am_r (.inl 1) 8, am_i x1] h a h := by
  refine am_M.ofi (A := [some (am_r (.inl 1) 8), some (am_i x1), none]) (by decide +kernel) rfl (ble rfl) (fun Q hQ => ?_)
  have H : wp (f_X10_endOfBlanks x1 h) (fun a => Q (some (am_i a)) h) := ⟨_, e, hQ⟩
  unfold f_X10_endOfBlanks at H
  refine rl_i1 dX10_endOfBlanks_0 ?_
  refine rs_i2 dX10_endOfBlanks_1 rfl trivial ?_
  exact am_V.wk (am_s (am_n (am_s am_0))) ((c_X10_endOfBlanks_L  _ H) _ rfl)
noncomputable def s_X10_endOfRun  (h : am_H) : am_S Unit → Option (am_S Unit ⊕ Int32) := fun s => match s with
  | (3, [x2, x3, x4], [], [], ()) => if (h.1 (.inl 1) 8 1) ≤ x4 then (some (.inr (x4))) else (if ib x4 500 then (if (h.1 (.inl 1) 9 x4.toNatClampNeg) < x2 then (some (.inr (x4))) else (if ib x4 500 then (if x3 < (h.1 (.inl 1) 9 x4.toNatClampNeg) then (some (.inr (x4))) else (some (.inl (3, [x2, x3, (x4 + 1)], [], [], ())))) else none)) else none)
  | _ => none
noncomputable def f_X10_endOfRun_3  (x2 : Int32) (x3 : Int32) (x4 : Int32) (h : am_H) : Option Int32 := lp (s_X10_endOfRun h) (3, [x2, x3, x4], [], [], ())
theorem e_X10_endOfRun_3  (x2 : Int32) (x3 : Int32) (x4 : Int32) (h : am_H) : f_X10_endOfRun_3 x2 x3 x4 h = (if (h.1 (.inl 1) 8 1) ≤ x4 then (some (x4)) else (if ib x4 500 then (if (h.1 (.inl 1) 9 x4.toNatClampNeg) < x2 then (some (x4)) else (if ib x4 500 then (if x3 < (h.1 (.inl 1) 9 x4.toNatClampNeg) then (some (x4)) else (f_X10_endOfRun_3 x2 x3 (x4 + 1) h)) else none)) else none)) := by
  show lp _ _ = _
  rw [lp_eq, s_X10_endOfRun]
  simp only [lpk_i, lpk_b, lpk_l, lpk_n, lpk_j, lpk_r] <;> rfl
noncomputable def f_X10_endOfRun (x1 : Int32) (x2 : Int32) (x3 : Int32) (h : am_H) : Option Int32 :=
  f_X10_endOfRun_3 x2 x3 x1 h
theorem c_X10_endOfRun_L  {h : am_H} {Q : Option am_v → am_H → Prop} : ∀ s, wp (lp (s_X10_endOfRun h) s) (fun a => Q (some (am_i a)) h) → ((∀ x2 x3 x4, s = (3, [x2, x3, x4], [], [], ()) → am_V RX10 cX10_endOfRun 5 (some .int) 0 0 0 0 none (am_Tm cX10_endOfRun (some .int) Q) 0 0 3 [some (am_r (.inl 1) 8), none, some (am_i x2), some (am_i x3), some (am_i x4)] [] h)) := by
  refine lp_ind _ _ (fun s H => fun x2 x3 x4 e => ?_)
  · subst e
    rw [s_X10_endOfRun] at H
    refine rl_i4 dX10_endOfRun_3 ?_
    refine rl_a0 dX10_endOfRun_5 ?_
    refine ar_getI dX10_endOfRun_6 fg_X10_19 rfl rfl (ok_X rfl) ?_
    refine ar_ic_ge 40 dX10_endOfRun_9 (by decide) (fun c1 => ?_) (fun c1 => ?_)
    · replace H := wp_t c1 H
      refine rl_i4 dX10_endOfRun_40 ?_
      replace H := lp_re H
      exact ar_iret dX10_endOfRun_42 rfl rfl H
    · replace H := wp_f c1 H
      refine rl_a0 dX10_endOfRun_12 ?_
      refine rg_R (.inl 1) 9 dX10_endOfRun_13 fg_X10_9 rfl rfl rfl (ok_X rfl) ?_
      refine rl_i4 dX10_endOfRun_16 ?_
      obtain ⟨b1, H⟩ := wp_g H
      refine ar_bald dX10_endOfRun_18 rfl (ok_X rfl) (ib_in b1) ?_
      refine rl_i2 dX10_endOfRun_19 ?_
      refine ar_ic_lt 40 dX10_endOfRun_20 (by decide) (fun c2 => ?_) (fun c2 => ?_)
      · replace H := wp_t c2 H
        refine rl_i4 dX10_endOfRun_40 ?_
        replace H := lp_re H
        exact ar_iret dX10_endOfRun_42 rfl rfl H
      · replace H := wp_f c2 H
        refine rl_a0 dX10_endOfRun_23 ?_
        refine rg_R (.inl 1) 9 dX10_endOfRun_24 fg_X10_9 rfl rfl rfl (ok_X rfl) ?_
        refine rl_i4 dX10_endOfRun_27 ?_
        obtain ⟨b2, H⟩ := wp_g H
        refine ar_bald dX10_endOfRun_29 rfl (ok_X rfl) (ib_in b2) ?_
        refine rl_i3 dX10_endOfRun_30 ?_
        refine ar_ic_gt 40 dX10_endOfRun_31 (by decide) (fun c3 => ?_) (fun c3 => ?_)
        · replace H := wp_t c3 H
          refine rl_i4 dX10_endOfRun_40 ?_
          replace H := lp_re H
          exact ar_iret dX10_endOfRun_42 rfl rfl H
        · replace H := wp_f c3 H
          refine rn_1_4 dX10_endOfRun_34 rfl trivial ?_
          refine ar_goto 3 dX10_endOfRun_37 (by decide) ?_
          exact am_V.wk (am_s (am_n (am_s (am_s (am_s am_0))))) ((lp_in H) _ _ _ rfl)
theorem c_X10_endOfRun {x1 : Int32} {x2 : Int32} {x3 : Int32} {h : am_H} {a : Int32} (e : f_X10_endOfRun x1 x2 x3 h = some a) : am_Mi yX10_endOfRun cX10_endOfRun 5 (some .int) 0 0 [am_r (.inl 1) 8, am_i x1, am_i x2, am_i x3] h a h := by
  refine am_M.ofi (A := [some (am_r (.inl 1) 8), some (am_i x1), some (am_i x2), some (am_i x3), none]) (by decide +kernel) rfl (ble rfl) (fun Q hQ => ?_)
  have H : wp (f_X10_endOfRun x1 x2 x3 h) (fun a => Q (some (am_i a)) h) := ⟨_, e, hQ⟩
  unfold f_X10_endOfRun at H
  refine rl_i1 dX10_endOfRun_0 ?_
  refine rs_i4 dX10_endOfRun_1 rfl trivial ?_
  exact am_V.wk (am_s (am_n (am_s (am_s (am_s am_0))))) ((c_X10_endOfRun_L  _ H) _ _ _ rfl)
noncomputable def f_X10_advance  (h : am_H) : Option am_H :=
  (f_X10_endOfBlanks (h.1 (.inl 1) 8 4) h).bind (fun a1 => am_lt (am_u h (.inl 1) 8 3 a1) (fun h1 => (f_X10_byteAt (h1.1 (.inl 1) 8 3) h1).bind (fun a2 => if (h1.1 (.inl 1) 8 3) < (h1.1 (.inl 1) 8 1) then ((f_X11_isWithin a2 (iI (97)) (iI (122))).bind (fun a3 => if a3 = 0 then ((f_X11_isWithin a2 (iI (48)) (iI (57))).bind (fun a4 => if a4 = 0 then (am_lt (am_u h1 (.inl 1) 8 4 ((h1.1 (.inl 1) 8 3) + (iI (1)))) (fun h2 => if a2 = (iI (59)) then (am_lt (am_u h2 (.inl 1) 8 2 (iI (3))) (fun h3 => some (h3))) else (if a2 = (iI (40)) then (am_lt (am_u h2 (.inl 1) 8 2 (iI (3))) (fun h3 => some (h3))) else (if a2 = (iI (41)) then (am_lt (am_u h2 (.inl 1) 8 2 (iI (3))) (fun h3 => some (h3))) else (am_lt (am_u h2 (.inl 1) 8 2 (iI (4))) (fun h3 => some (h3))))))) else ((f_X10_endOfRun (h1.1 (.inl 1) 8 3) (iI (48)) (iI (57)) h1).bind (fun a5 => am_lt (am_u h1 (.inl 1) 8 4 a5) (fun h2 => if (iI (3)) < ((h2.1 (.inl 1) 8 4) - (h2.1 (.inl 1) 8 3)) then (am_lt (am_u h2 (.inl 1) 8 2 (iI (4))) (fun h3 => some (h3))) else (am_lt (am_u h2 (.inl 1) 8 2 (iI (2))) (fun h3 => some (h3)))))))) else ((f_X10_endOfRun (h1.1 (.inl 1) 8 3) (iI (97)) (iI (122)) h1).bind (fun a4 => am_lt (am_u h1 (.inl 1) 8 4 a4) (fun h2 => if (iI (8)) < ((h2.1 (.inl 1) 8 4) - (h2.1 (.inl 1) 8 3)) then (am_lt (am_u h2 (.inl 1) 8 2 (iI (4))) (fun h3 => some (h3))) else (am_lt (am_u h2 (.inl 1) 8 2 (iI (1))) (fun h3 => some (h3)))))))) else (am_lt (am_u h1 (.inl 1) 8 4 (h1.1 (.inl 1) 8 1)) (fun h2 => am_lt (am_u h2 (.inl 1) 8 2 (iI (0))) (fun h3 => some (h3)))))))
theorem c_X10_advance  {h : am_H} {a : am_H} (e : f_X10_advance h = some a) : am_Mv yX10_advance cX10_advance 2 (none) 2 43 [am_r (.inl 1) 8] h a := by
  refine am_M.ofv (A := [some (am_r (.inl 1) 8), none]) (by decide +kernel) rfl (ble rfl) (fun Q hQ => ?_)
  have H : wp (f_X10_advance h) (fun a => Q none a) := ⟨_, e, hQ⟩
  unfold f_X10_advance at H
  refine rl_a0 dX10_advance_0 ?_
  refine rl_a0 dX10_advance_1 ?_
  refine rl_a0 dX10_advance_2 ?_
  refine ar_getI dX10_advance_3 fg_X10_37 rfl rfl (ok_X rfl) ?_
  obtain ⟨a1, e1, H⟩ := wp_b H
  refine rc_V1i dX10_advance_6 ml_X10_43 mc_X10_endOfBlanks (c_X10_endOfBlanks e1) rfl rfl rfl (ok_X rfl) rfl rfl rfl ?_
  refine ar_putI dX10_advance_9 fg_X10_46 rfl rfl (ok_X rfl) rfl rfl ?_
  replace H := wp_l H
  generalize am_u h (.inl 1) 8 3 a1 = h1 at H ⊢
  refine rl_a0 dX10_advance_12 ?_
  refine rl_a0 dX10_advance_13 ?_
  refine ar_getI dX10_advance_14 fg_X10_46 rfl rfl (ok_X rfl) ?_
  obtain ⟨a2, e2, H⟩ := wp_b H
  refine rc_V1i dX10_advance_17 ml_X10_26 mc_X10_byteAt (c_X10_byteAt e2) rfl rfl rfl (ok_X rfl) rfl rfl rfl ?_
  refine rs_i1 dX10_advance_20 rfl trivial ?_
  refine rl_a0 dX10_advance_21 ?_
  refine ar_getI dX10_advance_22 fg_X10_46 rfl rfl (ok_X rfl) ?_
  refine rl_a0 dX10_advance_25 ?_
  refine ar_getI dX10_advance_26 fg_X10_19 rfl rfl (ok_X rfl) ?_
  refine ar_ic_lt 48 dX10_advance_29 (by decide) (fun c1 => ?_) (fun c1 => ?_)
  · replace H := wp_t c1 H
    refine rl_i1 dX10_advance_48 ?_
    refine ar_bipush (iI (97)) dX10_advance_49 rfl ?_
    refine ar_bipush (iI (122)) dX10_advance_51 rfl ?_
    obtain ⟨a3, e3, H⟩ := wp_b H
    refine rc_N3i dX10_advance_53 ml_X10_22 mc_X11_isWithin (c_X11_isWithin e3) rfl rfl rfl ?_
    refine ar_if_eq 101 dX10_advance_56 (by decide) (fun c2 => ?_) (fun c2 => ?_)
    · replace H := wp_t c2 H
      refine rl_i1 dX10_advance_101 ?_
      refine ar_bipush (iI (48)) dX10_advance_102 rfl ?_
      refine ar_bipush (iI (57)) dX10_advance_104 rfl ?_
      obtain ⟨a4, e4, H⟩ := wp_b H
      refine rc_N3i dX10_advance_106 ml_X10_22 mc_X11_isWithin (c_X11_isWithin e4) rfl rfl rfl ?_
      refine ar_if_eq 153 dX10_advance_109 (by decide) (fun c3 => ?_) (fun c3 => ?_)
      · replace H := wp_t c3 H
        refine rl_a0 dX10_advance_153 ?_
        refine rl_a0 dX10_advance_154 ?_
        refine ar_getI dX10_advance_155 fg_X10_46 rfl rfl (ok_X rfl) ?_
        refine ar_iconst (iI (1)) dX10_advance_158 rfl ?_
        refine ar_iadd dX10_advance_159 ?_
        refine ar_putI dX10_advance_160 fg_X10_37 rfl rfl (ok_X rfl) rfl rfl ?_
        replace H := wp_l H
        generalize am_u h1 (.inl 1) 8 4 ((h1.1 (.inl 1) 8 3) + (iI (1))) = h2 at H ⊢
        refine rl_a0 dX10_advance_163 ?_
        refine rl_i1 dX10_advance_164 ?_
        refine ar_bipush (iI (59)) dX10_advance_165 rfl ?_
        refine ar_ic_eq 182 dX10_advance_167 (by decide) (fun c4 => ?_) (fun c4 => ?_)
        · replace H := wp_t c4 H
          refine ar_iconst (iI (3)) dX10_advance_182 rfl ?_
          refine ar_goto 187 dX10_advance_183 (by decide) ?_
          refine ar_putI dX10_advance_187 fg_X10_49 rfl rfl (ok_X rfl) rfl rfl ?_
          replace H := wp_l H
          generalize am_u h2 (.inl 1) 8 2 (iI (3)) = h3 at H ⊢
          replace H := wp_s H
          exact ar_vret dX10_advance_190 rfl H
        · replace H := wp_f c4 H
          refine rl_i1 dX10_advance_170 ?_
          refine ar_bipush (iI (40)) dX10_advance_171 rfl ?_
          refine ar_ic_eq 182 dX10_advance_173 (by decide) (fun c5 => ?_) (fun c5 => ?_)
          · replace H := wp_t c5 H
            refine ar_iconst (iI (3)) dX10_advance_182 rfl ?_
            refine ar_goto 187 dX10_advance_183 (by decide) ?_
            refine ar_putI dX10_advance_187 fg_X10_49 rfl rfl (ok_X rfl) rfl rfl ?_
            replace H := wp_l H
            generalize am_u h2 (.inl 1) 8 2 (iI (3)) = h3 at H ⊢
            replace H := wp_s H
            exact ar_vret dX10_advance_190 rfl H
          · replace H := wp_f c5 H
            refine rl_i1 dX10_advance_176 ?_
            refine ar_bipush (iI (41)) dX10_advance_177 rfl ?_
            refine ar_ic_ne 186 dX10_advance_179 (by decide) (fun c6 => ?_) (fun c6 => ?_)
            · replace H := wp_f c6 H
              refine ar_iconst (iI (4)) dX10_advance_186 rfl ?_
              refine ar_putI dX10_advance_187 fg_X10_49 rfl rfl (ok_X rfl) rfl rfl ?_
              replace H := wp_l H
              generalize am_u h2 (.inl 1) 8 2 (iI (4)) = h3 at H ⊢
              replace H := wp_s H
              exact ar_vret dX10_advance_190 rfl H
            · replace H := wp_t c6 H
              refine ar_iconst (iI (3)) dX10_advance_182 rfl ?_
              refine ar_goto 187 dX10_advance_183 (by decide) ?_
              refine ar_putI dX10_advance_187 fg_X10_49 rfl rfl (ok_X rfl) rfl rfl ?_
              replace H := wp_l H
              generalize am_u h2 (.inl 1) 8 2 (iI (3)) = h3 at H ⊢
              replace H := wp_s H
              exact ar_vret dX10_advance_190 rfl H
      · replace H := wp_f c3 H
        refine rl_a0 dX10_advance_112 ?_
        refine rl_a0 dX10_advance_113 ?_
        refine rl_a0 dX10_advance_114 ?_
        refine ar_getI dX10_advance_115 fg_X10_46 rfl rfl (ok_X rfl) ?_
        refine ar_bipush (iI (48)) dX10_advance_118 rfl ?_
        refine ar_bipush (iI (57)) dX10_advance_120 rfl ?_
        obtain ⟨a5, e5, H⟩ := wp_b H
        refine rc_V3i dX10_advance_122 ml_X10_30 mc_X10_endOfRun (c_X10_endOfRun e5) rfl rfl rfl (ok_X rfl) rfl rfl rfl ?_
        refine ar_putI dX10_advance_125 fg_X10_37 rfl rfl (ok_X rfl) rfl rfl ?_
        replace H := wp_l H
        generalize am_u h1 (.inl 1) 8 4 a5 = h2 at H ⊢
        refine rl_a0 dX10_advance_128 ?_
        refine rl_a0 dX10_advance_129 ?_
        refine ar_getI dX10_advance_130 fg_X10_37 rfl rfl (ok_X rfl) ?_
        refine rl_a0 dX10_advance_133 ?_
        refine ar_getI dX10_advance_134 fg_X10_46 rfl rfl (ok_X rfl) ?_
        refine ar_isub dX10_advance_137 ?_
        refine ar_iconst (iI (3)) dX10_advance_138 rfl ?_
        refine ar_ic_gt 146 dX10_advance_139 (by decide) (fun c4 => ?_) (fun c4 => ?_)
        · replace H := wp_t c4 H
          refine ar_iconst (iI (4)) dX10_advance_146 rfl ?_
          refine ar_putI dX10_advance_147 fg_X10_49 rfl rfl (ok_X rfl) rfl rfl ?_
          replace H := wp_l H
          generalize am_u h2 (.inl 1) 8 2 (iI (4)) = h3 at H ⊢
          refine ar_goto 190 dX10_advance_150 (by decide) ?_
          replace H := wp_s H
          exact ar_vret dX10_advance_190 rfl H
        · replace H := wp_f c4 H
          refine ar_iconst (iI (2)) dX10_advance_142 rfl ?_
          refine ar_goto 147 dX10_advance_143 (by decide) ?_
          refine ar_putI dX10_advance_147 fg_X10_49 rfl rfl (ok_X rfl) rfl rfl ?_
          replace H := wp_l H
          generalize am_u h2 (.inl 1) 8 2 (iI (2)) = h3 at H ⊢
          refine ar_goto 190 dX10_advance_150 (by decide) ?_
          replace H := wp_s H
          exact ar_vret dX10_advance_190 rfl H
    · replace H := wp_f c2 H
      refine rl_a0 dX10_advance_59 ?_
      refine rl_a0 dX10_advance_60 ?_
      refine rl_a0 dX10_advance_61 ?_
      refine ar_getI dX10_advance_62 fg_X10_46 rfl rfl (ok_X rfl) ?_
      refine ar_bipush (iI (97)) dX10_advance_65 rfl ?_
      refine ar_bipush (iI (122)) dX10_advance_67 rfl ?_
      obtain ⟨a4, e4, H⟩ := wp_b H
      refine rc_V3i dX10_advance_69 ml_X10_30 mc_X10_endOfRun (c_X10_endOfRun e4) rfl rfl rfl (ok_X rfl) rfl rfl rfl ?_
      refine ar_putI dX10_advance_72 fg_X10_37 rfl rfl (ok_X rfl) rfl rfl ?_
      replace H := wp_l H
      generalize am_u h1 (.inl 1) 8 4 a4 = h2 at H ⊢
      refine rl_a0 dX10_advance_75 ?_
      refine rl_a0 dX10_advance_76 ?_
      refine ar_getI dX10_advance_77 fg_X10_37 rfl rfl (ok_X rfl) ?_
      refine rl_a0 dX10_advance_80 ?_
      refine ar_getI dX10_advance_81 fg_X10_46 rfl rfl (ok_X rfl) ?_
      refine ar_isub dX10_advance_84 ?_
      refine ar_bipush (iI (8)) dX10_advance_85 rfl ?_
      refine ar_ic_gt 94 dX10_advance_87 (by decide) (fun c3 => ?_) (fun c3 => ?_)
      · replace H := wp_t c3 H
        refine ar_iconst (iI (4)) dX10_advance_94 rfl ?_
        refine ar_putI dX10_advance_95 fg_X10_49 rfl rfl (ok_X rfl) rfl rfl ?_
        replace H := wp_l H
        generalize am_u h2 (.inl 1) 8 2 (iI (4)) = h3 at H ⊢
        refine ar_goto 190 dX10_advance_98 (by decide) ?_
        replace H := wp_s H
        exact ar_vret dX10_advance_190 rfl H
      · replace H := wp_f c3 H
        refine ar_iconst (iI (1)) dX10_advance_90 rfl ?_
        refine ar_goto 95 dX10_advance_91 (by decide) ?_
        refine ar_putI dX10_advance_95 fg_X10_49 rfl rfl (ok_X rfl) rfl rfl ?_
        replace H := wp_l H
        generalize am_u h2 (.inl 1) 8 2 (iI (1)) = h3 at H ⊢
        refine ar_goto 190 dX10_advance_98 (by decide) ?_
        replace H := wp_s H
        exact ar_vret dX10_advance_190 rfl H
  · replace H := wp_f c1 H
    refine rl_a0 dX10_advance_32 ?_
    refine rl_a0 dX10_advance_33 ?_
    refine ar_getI dX10_advance_34 fg_X10_19 rfl rfl (ok_X rfl) ?_
    refine ar_putI dX10_advance_37 fg_X10_37 rfl rfl (ok_X rfl) rfl rfl ?_
    replace H := wp_l H
    generalize am_u h1 (.inl 1) 8 4 (h1.1 (.inl 1) 8 1) = h2 at H ⊢
    refine rl_a0 dX10_advance_40 ?_
    refine ar_iconst (iI (0)) dX10_advance_41 rfl ?_
    refine ar_putI dX10_advance_42 fg_X10_49 rfl rfl (ok_X rfl) rfl rfl ?_
    replace H := wp_l H
    generalize am_u h2 (.inl 1) 8 2 (iI (0)) = h3 at H ⊢
    refine ar_goto 190 dX10_advance_45 (by decide) ?_
    replace H := wp_s H
    exact ar_vret dX10_advance_190 rfl H
noncomputable def f_X10_begin  (h : am_H) : Option am_H :=
  am_lt (am_u h (.inl 1) 8 6 (iI (0))) (fun h1 => am_lt (am_u h1 (.inl 1) 8 7 (iI (-1))) (fun h2 => am_lt (am_u h2 (.inl 1) 8 4 (iI (0))) (fun h3 => (f_X10_advance h3).bind (fun a1 => some (a1)))))
theorem c_X10_begin  {h : am_H} {a : am_H} (e : f_X10_begin h = some a) : am_Mv yX10_begin cX10_begin 1 (none) 3 64 [am_r (.inl 1) 8] h a := by
  refine am_M.ofv (A := [some (am_r (.inl 1) 8)]) (by decide +kernel) rfl (ble rfl) (fun Q hQ => ?_)
  have H : wp (f_X10_begin h) (fun a => Q none a) := ⟨_, e, hQ⟩
  unfold f_X10_begin at H
  refine rl_a0 dX10_begin_0 ?_
  refine ar_iconst (iI (0)) dX10_begin_1 rfl ?_
  refine ar_putI dX10_begin_2 fg_X10_34 rfl rfl (ok_X rfl) rfl rfl ?_
  replace H := wp_l H
  generalize am_u h (.inl 1) 8 6 (iI (0)) = h1 at H ⊢
  refine rl_a0 dX10_begin_5 ?_
  refine ar_iconst (iI (-1)) dX10_begin_6 rfl ?_
  refine ar_putI dX10_begin_7 fg_X10_15 rfl rfl (ok_X rfl) rfl rfl ?_
  replace H := wp_l H
  generalize am_u h1 (.inl 1) 8 7 (iI (-1)) = h2 at H ⊢
  refine rl_a0 dX10_begin_10 ?_
  refine ar_iconst (iI (0)) dX10_begin_11 rfl ?_
  refine ar_putI dX10_begin_12 fg_X10_37 rfl rfl (ok_X rfl) rfl rfl ?_
  replace H := wp_l H
  generalize am_u h2 (.inl 1) 8 4 (iI (0)) = h3 at H ⊢
  refine rl_a0 dX10_begin_15 ?_
  obtain ⟨a1, e1, H⟩ := wp_b H
  refine rc_V0v dX10_begin_16 ml_X10_40 mc_X10_advance (c_X10_advance e1) rfl rfl rfl (ok_X rfl) rfl rfl rfl ?_
  replace H := wp_s H
  exact ar_vret dX10_begin_19 rfl H
noncomputable def f_X10_isAtEnd  (h : am_H) : Option Int32 :=
  if (h.1 (.inl 1) 8 2) = 0 then (some ((iI (1)))) else (some ((iI (0))))
theorem c_X10_isAtEnd  {h : am_H} {a : Int32} (e : f_X10_isAtEnd h = some a) : am_Mi yX10_isAtEnd cX10_isAtEnd 1 (some .boolean) 0 0 [am_r (.inl 1) 8] h a h := by
  refine am_M.ofi (A := [some (am_r (.inl 1) 8)]) (by decide +kernel) rfl (ble rfl) (fun Q hQ => ?_)
  have H : wp (f_X10_isAtEnd h) (fun a => Q (some (am_i a)) h) := ⟨_, e, hQ⟩
  unfold f_X10_isAtEnd at H
  refine rl_a0 dX10_isAtEnd_0 ?_
  refine ar_getI dX10_isAtEnd_1 fg_X10_49 rfl rfl (ok_X rfl) ?_
  refine ar_if_ne 11 dX10_isAtEnd_4 (by decide) (fun c1 => ?_) (fun c1 => ?_)
  · replace H := wp_f c1 H
    refine ar_iconst (iI (0)) dX10_isAtEnd_11 rfl ?_
    replace H := wp_s H
    exact ar_iret dX10_isAtEnd_12 rfl rfl H
  · replace H := wp_t c1 H
    refine ar_iconst (iI (1)) dX10_isAtEnd_7 rfl ?_
    refine ar_goto 12 dX10_isAtEnd_8 (by decide) ?_
    replace H := wp_s H
    exact ar_iret dX10_isAtEnd_12 rfl rfl H
noncomputable def s_X10_isWord (t1 : Nat) (h : am_H) : am_S Unit → Option (am_S Unit ⊕ Int32) := fun s => match s with
  | (28, [x2], [], [], ()) => if (am_tlen t1) ≤ x2 then (some (.inr ((iI (1))))) else (if ib x2 (am_tx t1).length then ((f_X10_byteAt ((h.1 (.inl 1) 8 3) + x2) h).bind (fun a1 => if (am_tchr t1 x2) = a1 then (some (.inl (28, [(x2 + 1)], [], [], ()))) else (some (.inr ((iI (0))))))) else none)
  | _ => none
noncomputable def f_X10_isWord_28 (t1 : Nat) (x2 : Int32) (h : am_H) : Option Int32 := lp (s_X10_isWord t1 h) (28, [x2], [], [], ())
theorem e_X10_isWord_28 (t1 : Nat) (x2 : Int32) (h : am_H) : f_X10_isWord_28 t1 x2 h = (if (am_tlen t1) ≤ x2 then (some ((iI (1)))) else (if ib x2 (am_tx t1).length then ((f_X10_byteAt ((h.1 (.inl 1) 8 3) + x2) h).bind (fun a1 => if (am_tchr t1 x2) = a1 then (f_X10_isWord_28 t1 (x2 + 1) h) else (some ((iI (0)))))) else none)) := by
  show lp _ _ = _
  rw [lp_eq, s_X10_isWord]
  simp only [lpk_i, lpk_b, lpk_l, lpk_n, lpk_j, lpk_r] <;> rfl
noncomputable def f_X10_isWord (t1 : Nat) (h : am_H) : Option Int32 :=
  if (h.1 (.inl 1) 8 2) = (iI (1)) then (if (am_tlen t1) = ((h.1 (.inl 1) 8 4) - (h.1 (.inl 1) 8 3)) then (f_X10_isWord_28 t1 (iI (0)) h) else (some ((iI (0))))) else (some ((iI (0))))
theorem c_X10_isWord_L {t1 : Nat} (ht1 : Nat.blt t1 22 = true) {h : am_H} {Q : Option am_v → am_H → Prop} : ∀ s, wp (lp (s_X10_isWord t1 h) s) (fun a => Q (some (am_i a)) h) → ((∀ x2, s = (28, [x2], [], [], ()) → am_V RX10 cX10_isWord 3 (some .boolean) 4 85 0 0 none (am_Tm cX10_isWord (some .boolean) Q) 0 0 28 [some (am_r (.inl 1) 8), some (am_r (.inl 2) t1), some (am_i x2)] [] h)) := by
  refine lp_ind _ _ (fun s H => fun x2 e => ?_)
  · subst e
    rw [s_X10_isWord] at H
    refine rl_i2 dX10_isWord_28 ?_
    refine rl_a1 dX10_isWord_29 ?_
    refine ar_strlen dX10_isWord_30 ml_X10_52 ht1 rfl rfl rfl ?_
    refine ar_ic_ge 62 dX10_isWord_33 (by decide) (fun c1 => ?_) (fun c1 => ?_)
    · replace H := wp_t c1 H
      refine ar_iconst (iI (1)) dX10_isWord_62 rfl ?_
      replace H := lp_re H
      exact ar_iret dX10_isWord_63 rfl rfl H
    · replace H := wp_f c1 H
      refine rl_a1 dX10_isWord_36 ?_
      refine rl_i2 dX10_isWord_37 ?_
      obtain ⟨b1, H⟩ := wp_g H
      refine ar_strchr dX10_isWord_38 ml_X10_57 ht1 b1 rfl rfl rfl ?_
      refine rl_a0 dX10_isWord_41 ?_
      refine rl_a0 dX10_isWord_42 ?_
      refine ar_getI dX10_isWord_43 fg_X10_46 rfl rfl (ok_X rfl) ?_
      refine rl_i2 dX10_isWord_46 ?_
      refine ar_iadd dX10_isWord_47 ?_
      obtain ⟨a1, e1, H⟩ := wp_b H
      refine rc_V1i dX10_isWord_48 ml_X10_26 mc_X10_byteAt (c_X10_byteAt e1) rfl rfl rfl (ok_X rfl) rfl rfl rfl ?_
      refine ar_ic_eq 56 dX10_isWord_51 (by decide) (fun c2 => ?_) (fun c2 => ?_)
      · replace H := wp_t c2 H
        refine rn_1_2 dX10_isWord_56 rfl trivial ?_
        refine ar_goto 28 dX10_isWord_59 (by decide) ?_
        exact am_V.wk (am_s (am_s (am_s am_0))) ((lp_in H) _ rfl)
      · replace H := wp_f c2 H
        refine ar_iconst (iI (0)) dX10_isWord_54 rfl ?_
        replace H := lp_re H
        exact ar_iret dX10_isWord_55 rfl rfl H
theorem c_X10_isWord {t1 : Nat} (ht1 : Nat.blt t1 22 = true) {h : am_H} {a : Int32} (e : f_X10_isWord t1 h = some a) : am_Mi yX10_isWord cX10_isWord 3 (some .boolean) 4 85 [am_r (.inl 1) 8, am_r (.inl 2) t1] h a h := by
  refine am_M.ofi (A := [some (am_r (.inl 1) 8), some (am_r (.inl 2) t1), none]) (by decide +kernel) rfl (ble rfl) (fun Q hQ => ?_)
  have H : wp (f_X10_isWord t1 h) (fun a => Q (some (am_i a)) h) := ⟨_, e, hQ⟩
  unfold f_X10_isWord at H
  refine rl_a0 dX10_isWord_0 ?_
  refine ar_getI dX10_isWord_1 fg_X10_49 rfl rfl (ok_X rfl) ?_
  refine ar_iconst (iI (1)) dX10_isWord_4 rfl ?_
  refine ar_ic_ne 24 dX10_isWord_5 (by decide) (fun c1 => ?_) (fun c1 => ?_)
  · replace H := wp_f c1 H
    refine ar_iconst (iI (0)) dX10_isWord_24 rfl ?_
    replace H := wp_s H
    exact ar_iret dX10_isWord_25 rfl rfl H
  · replace H := wp_t c1 H
    refine rl_a1 dX10_isWord_8 ?_
    refine ar_strlen dX10_isWord_9 ml_X10_52 ht1 rfl rfl rfl ?_
    refine rl_a0 dX10_isWord_12 ?_
    refine ar_getI dX10_isWord_13 fg_X10_37 rfl rfl (ok_X rfl) ?_
    refine rl_a0 dX10_isWord_16 ?_
    refine ar_getI dX10_isWord_17 fg_X10_46 rfl rfl (ok_X rfl) ?_
    refine ar_isub dX10_isWord_20 ?_
    refine ar_ic_eq 26 dX10_isWord_21 (by decide) (fun c2 => ?_) (fun c2 => ?_)
    · replace H := wp_t c2 H
      refine ar_iconst (iI (0)) dX10_isWord_26 rfl ?_
      refine rs_i2 dX10_isWord_27 rfl trivial ?_
      exact am_V.wk (am_s (am_s (am_s am_0))) ((c_X10_isWord_L ht1 _ H) _ rfl)
    · replace H := wp_f c2 H
      refine ar_iconst (iI (0)) dX10_isWord_24 rfl ?_
      replace H := wp_s H
      exact ar_iret dX10_isWord_25 rfl rfl H
noncomputable def f_X10_fail (x1 : Int32) (h : am_H) : Option (Int32 × am_H) :=
  am_lt (am_u h (.inl 1) 8 6 x1) (fun h1 => am_lt (am_u h1 (.inl 1) 8 7 (h1.1 (.inl 1) 8 3)) (fun h2 => some (((iI (0)), h2))))
theorem c_X10_fail {x1 : Int32} {h : am_H} {a : Int32 × am_H} (e : f_X10_fail x1 h = some a) : am_Mi yX10_fail cX10_fail 2 (some .boolean) 0 0 [am_r (.inl 1) 8, am_i x1] h a.1 a.2 := by
  refine am_M.ofi (A := [some (am_r (.inl 1) 8), some (am_i x1)]) (by decide +kernel) rfl (ble rfl) (fun Q hQ => ?_)
  have H : wp (f_X10_fail x1 h) (fun a => Q (some (am_i a.1)) a.2) := ⟨_, e, hQ⟩
  unfold f_X10_fail at H
  refine rl_a0 dX10_fail_0 ?_
  refine rl_i1 dX10_fail_1 ?_
  refine ar_putI dX10_fail_2 fg_X10_34 rfl rfl (ok_X rfl) rfl rfl ?_
  replace H := wp_l H
  generalize am_u h (.inl 1) 8 6 x1 = h1 at H ⊢
  refine rl_a0 dX10_fail_5 ?_
  refine rl_a0 dX10_fail_6 ?_
  refine ar_getI dX10_fail_7 fg_X10_46 rfl rfl (ok_X rfl) ?_
  refine ar_putI dX10_fail_10 fg_X10_15 rfl rfl (ok_X rfl) rfl rfl ?_
  replace H := wp_l H
  generalize am_u h1 (.inl 1) 8 7 (h1.1 (.inl 1) 8 3) = h2 at H ⊢
  refine ar_iconst (iI (0)) dX10_fail_13 rfl ?_
  replace H := wp_s H
  exact ar_iret dX10_fail_14 rfl rfl H
noncomputable def s_X10_takeNumber  : am_S am_H → Option (am_S am_H ⊕ (Int32 × am_H)) := fun s => match s with
  | (22, [x1, x2, x3, x4], [], [], h) => if (h.1 (.inl 1) 8 4) ≤ x4 then ((f_X11_isWithin x3 x1 x2).bind (fun a1 => if a1 = 0 then ((f_X10_fail (iI (2)) h).bind (fun a2 => if zb a2.1 then (some (.inr ((a2.1, a2.2)))) else none)) else (am_lt (am_u h (.inl 1) 8 5 x3) (fun h1 => (f_X10_advance h1).bind (fun a2 => some (.inr (((iI (1)), a2)))))))) else ((f_X10_byteAt x4 h).bind (fun a1 => some (.inl (22, [x1, x2, ((((iI (10)) * x3) + a1) - (iI (48))), (x4 + 1)], [], [], h))))
  | _ => none
noncomputable def f_X10_takeNumber_22  (x1 : Int32) (x2 : Int32) (x3 : Int32) (x4 : Int32) (h : am_H) : Option (Int32 × am_H) := lp (s_X10_takeNumber) (22, [x1, x2, x3, x4], [], [], h)
theorem e_X10_takeNumber_22  (x1 : Int32) (x2 : Int32) (x3 : Int32) (x4 : Int32) (h : am_H) : f_X10_takeNumber_22 x1 x2 x3 x4 h = (if (h.1 (.inl 1) 8 4) ≤ x4 then ((f_X11_isWithin x3 x1 x2).bind (fun a1 => if a1 = 0 then ((f_X10_fail (iI (2)) h).bind (fun a2 => if zb a2.1 then (some ((a2.1, a2.2))) else none)) else (am_lt (am_u h (.inl 1) 8 5 x3) (fun h1 => (f_X10_advance h1).bind (fun a2 => some (((iI (1)), a2))))))) else ((f_X10_byteAt x4 h).bind (fun a1 => f_X10_takeNumber_22 x1 x2 ((((iI (10)) * x3) + a1) - (iI (48))) (x4 + 1) h))) := by
  show lp _ _ = _
  rw [lp_eq, s_X10_takeNumber]
  simp only [lpk_i, lpk_b, lpk_l, lpk_n, lpk_j, lpk_r] <;> rfl
noncomputable def f_X10_takeNumber (x1 : Int32) (x2 : Int32) (h : am_H) : Option (Int32 × am_H) :=
  if (h.1 (.inl 1) 8 2) = (iI (2)) then (f_X10_takeNumber_22 x1 x2 (iI (0)) (h.1 (.inl 1) 8 3) h) else ((f_X10_fail (iI (1)) h).bind (fun a1 => if zb a1.1 then (some ((a1.1, a1.2))) else none))
theorem c_X10_takeNumber_L  {Q : Option am_v → am_H → Prop} : ∀ s, wp (lp (s_X10_takeNumber) s) (fun a => Q (some (am_i a.1)) a.2) → ((∀ x1 x2 x3 x4 h, s = (22, [x1, x2, x3, x4], [], [], h) → am_V RX10 cX10_takeNumber 5 (some .boolean) 3 64 0 0 none (am_Tm cX10_takeNumber (some .boolean) Q) 0 0 22 [some (am_r (.inl 1) 8), some (am_i x1), some (am_i x2), some (am_i x3), some (am_i x4)] [] h)) := by
  refine lp_ind _ _ (fun s H => fun x1 x2 x3 x4 h e => ?_)
  · subst e
    rw [s_X10_takeNumber] at H
    refine rl_i4 dX10_takeNumber_22 ?_
    refine rl_a0 dX10_takeNumber_24 ?_
    refine ar_getI dX10_takeNumber_25 fg_X10_37 rfl rfl (ok_X rfl) ?_
    refine ar_ic_ge 52 dX10_takeNumber_28 (by decide) (fun c1 => ?_) (fun c1 => ?_)
    · replace H := wp_t c1 H
      refine rl_i3 dX10_takeNumber_52 ?_
      refine rl_i1 dX10_takeNumber_53 ?_
      refine rl_i2 dX10_takeNumber_54 ?_
      obtain ⟨a1, e1, H⟩ := wp_b H
      refine rc_N3i dX10_takeNumber_55 ml_X10_22 mc_X11_isWithin (c_X11_isWithin e1) rfl rfl rfl ?_
      refine ar_if_ne 67 dX10_takeNumber_58 (by decide) (fun c2 => ?_) (fun c2 => ?_)
      · replace H := wp_f c2 H
        refine rl_a0 dX10_takeNumber_67 ?_
        refine rl_i3 dX10_takeNumber_68 ?_
        refine ar_putI dX10_takeNumber_69 fg_X10_73 rfl rfl (ok_X rfl) rfl rfl ?_
        replace H := wp_l H
        generalize am_u h (.inl 1) 8 5 x3 = h1 at H ⊢
        refine rl_a0 dX10_takeNumber_72 ?_
        obtain ⟨a2, e2, H⟩ := wp_b H
        refine rc_V0v dX10_takeNumber_73 ml_X10_40 mc_X10_advance (c_X10_advance e2) rfl rfl rfl (ok_X rfl) rfl rfl rfl ?_
        refine ar_iconst (iI (1)) dX10_takeNumber_76 rfl ?_
        replace H := lp_re H
        exact ar_iret dX10_takeNumber_77 rfl rfl H
      · replace H := wp_t c2 H
        refine rl_a0 dX10_takeNumber_61 ?_
        refine ar_iconst (iI (2)) dX10_takeNumber_62 rfl ?_
        obtain ⟨a2, e2, H⟩ := wp_b H
        refine rc_V1i dX10_takeNumber_63 ml_X10_69 mc_X10_fail (c_X10_fail e2) rfl rfl rfl (ok_X rfl) rfl rfl rfl ?_
        obtain ⟨b1, H⟩ := wp_g H
        replace H := lp_re H
        exact ar_iret dX10_takeNumber_66 rfl (zb_n b1) H
    · replace H := wp_f c1 H
      refine ar_bipush (iI (10)) dX10_takeNumber_31 rfl ?_
      refine rl_i3 dX10_takeNumber_33 ?_
      refine ar_imul dX10_takeNumber_34 ?_
      refine rl_a0 dX10_takeNumber_35 ?_
      refine rl_i4 dX10_takeNumber_36 ?_
      obtain ⟨a1, e1, H⟩ := wp_b H
      refine rc_V1i dX10_takeNumber_38 ml_X10_26 mc_X10_byteAt (c_X10_byteAt e1) rfl rfl rfl (ok_X rfl) rfl rfl rfl ?_
      refine ar_iadd dX10_takeNumber_41 ?_
      refine ar_bipush (iI (48)) dX10_takeNumber_42 rfl ?_
      refine ar_isub dX10_takeNumber_44 ?_
      refine rs_i3 dX10_takeNumber_45 rfl trivial ?_
      refine rn_1_4 dX10_takeNumber_46 rfl trivial ?_
      refine ar_goto 22 dX10_takeNumber_49 (by decide) ?_
      exact am_V.wk (am_s (am_s (am_s (am_s (am_s am_0))))) ((lp_in H) _ _ _ _ _ rfl)
theorem c_X10_takeNumber {x1 : Int32} {x2 : Int32} {h : am_H} {a : Int32 × am_H} (e : f_X10_takeNumber x1 x2 h = some a) : am_Mi yX10_takeNumber cX10_takeNumber 5 (some .boolean) 3 64 [am_r (.inl 1) 8, am_i x1, am_i x2] h a.1 a.2 := by
  refine am_M.ofi (A := [some (am_r (.inl 1) 8), some (am_i x1), some (am_i x2), none, none]) (by decide +kernel) rfl (ble rfl) (fun Q hQ => ?_)
  have H : wp (f_X10_takeNumber x1 x2 h) (fun a => Q (some (am_i a.1)) a.2) := ⟨_, e, hQ⟩
  unfold f_X10_takeNumber at H
  refine rl_a0 dX10_takeNumber_0 ?_
  refine ar_getI dX10_takeNumber_1 fg_X10_49 rfl rfl (ok_X rfl) ?_
  refine ar_iconst (iI (2)) dX10_takeNumber_4 rfl ?_
  refine ar_ic_eq 14 dX10_takeNumber_5 (by decide) (fun c1 => ?_) (fun c1 => ?_)
  · replace H := wp_t c1 H
    refine ar_iconst (iI (0)) dX10_takeNumber_14 rfl ?_
    refine rs_i3 dX10_takeNumber_15 rfl trivial ?_
    refine rl_a0 dX10_takeNumber_16 ?_
    refine ar_getI dX10_takeNumber_17 fg_X10_46 rfl rfl (ok_X rfl) ?_
    refine rs_i4 dX10_takeNumber_20 rfl trivial ?_
    exact am_V.wk (am_s (am_s (am_s (am_s (am_s am_0))))) ((c_X10_takeNumber_L  _ H) _ _ _ _ _ rfl)
  · replace H := wp_f c1 H
    refine rl_a0 dX10_takeNumber_8 ?_
    refine ar_iconst (iI (1)) dX10_takeNumber_9 rfl ?_
    obtain ⟨a1, e1, H⟩ := wp_b H
    refine rc_V1i dX10_takeNumber_10 ml_X10_69 mc_X10_fail (c_X10_fail e1) rfl rfl rfl (ok_X rfl) rfl rfl rfl ?_
    obtain ⟨b1, H⟩ := wp_g H
    replace H := wp_s H
    exact ar_iret dX10_takeNumber_13 rfl (zb_n b1) H
noncomputable def f_X10_takeIfWord (t1 : Nat) (h : am_H) : Option (Int32 × am_H) :=
  (f_X10_isWord t1 h).bind (fun a1 => if a1 = 0 then (if zb a1 then (some ((a1, h))) else none) else ((f_X10_advance h).bind (fun a2 => if zb a1 then (some ((a1, a2))) else none)))
theorem c_X10_takeIfWord {t1 : Nat} (ht1 : Nat.blt t1 22 = true) {h : am_H} {a : Int32 × am_H} (e : f_X10_takeIfWord t1 h = some a) : am_Mi yX10_takeIfWord cX10_takeIfWord 3 (some .boolean) 5 107 [am_r (.inl 1) 8, am_r (.inl 2) t1] h a.1 a.2 := by
  refine am_M.ofi (A := [some (am_r (.inl 1) 8), some (am_r (.inl 2) t1), none]) (by decide +kernel) rfl (ble rfl) (fun Q hQ => ?_)
  have H : wp (f_X10_takeIfWord t1 h) (fun a => Q (some (am_i a.1)) a.2) := ⟨_, e, hQ⟩
  unfold f_X10_takeIfWord at H
  refine rl_a0 dX10_takeIfWord_0 ?_
  refine rl_a1 dX10_takeIfWord_1 ?_
  obtain ⟨a1, e1, H⟩ := wp_b H
  refine rc_V1i dX10_takeIfWord_2 ml_X10_61 mc_X10_isWord (c_X10_isWord ht1 e1) rfl rfl rfl (ok_X rfl) rfl rfl rfl ?_
  refine rs_i2 dX10_takeIfWord_5 rfl trivial ?_
  refine rl_i2 dX10_takeIfWord_6 ?_
  refine ar_if_eq 14 dX10_takeIfWord_7 (by decide) (fun c1 => ?_) (fun c1 => ?_)
  · replace H := wp_t c1 H
    refine rl_i2 dX10_takeIfWord_14 ?_
    obtain ⟨b1, H⟩ := wp_g H
    replace H := wp_s H
    exact ar_iret dX10_takeIfWord_15 rfl (zb_n b1) H
  · replace H := wp_f c1 H
    refine rl_a0 dX10_takeIfWord_10 ?_
    obtain ⟨a2, e2, H⟩ := wp_b H
    refine rc_V0v dX10_takeIfWord_11 ml_X10_40 mc_X10_advance (c_X10_advance e2) rfl rfl rfl (ok_X rfl) rfl rfl rfl ?_
    refine rl_i2 dX10_takeIfWord_14 ?_
    obtain ⟨b1, H⟩ := wp_g H
    replace H := wp_s H
    exact ar_iret dX10_takeIfWord_15 rfl (zb_n b1) H
noncomputable def f_X10_isAnyWord  (h : am_H) : Option Int32 :=
  if (h.1 (.inl 1) 8 2) = (iI (1)) then (some ((iI (1)))) else (some ((iI (0))))
theorem c_X10_isAnyWord  {h : am_H} {a : Int32} (e : f_X10_isAnyWord h = some a) : am_Mi yX10_isAnyWord cX10_isAnyWord 1 (some .boolean) 0 0 [am_r (.inl 1) 8] h a h := by
  refine am_M.ofi (A := [some (am_r (.inl 1) 8)]) (by decide +kernel) rfl (ble rfl) (fun Q hQ => ?_)
  have H : wp (f_X10_isAnyWord h) (fun a => Q (some (am_i a)) h) := ⟨_, e, hQ⟩
  unfold f_X10_isAnyWord at H
  refine rl_a0 dX10_isAnyWord_0 ?_
  refine ar_getI dX10_isAnyWord_1 fg_X10_49 rfl rfl (ok_X rfl) ?_
  refine ar_iconst (iI (1)) dX10_isAnyWord_4 rfl ?_
  refine ar_ic_ne 12 dX10_isAnyWord_5 (by decide) (fun c1 => ?_) (fun c1 => ?_)
  · replace H := wp_f c1 H
    refine ar_iconst (iI (0)) dX10_isAnyWord_12 rfl ?_
    replace H := wp_s H
    exact ar_iret dX10_isAnyWord_13 rfl rfl H
  · replace H := wp_t c1 H
    refine ar_iconst (iI (1)) dX10_isAnyWord_8 rfl ?_
    refine ar_goto 13 dX10_isAnyWord_9 (by decide) ?_
    replace H := wp_s H
    exact ar_iret dX10_isAnyWord_13 rfl rfl H
noncomputable def f_X10_isSign (x1 : Int32) (h : am_H) : Option Int32 :=
  if (h.1 (.inl 1) 8 2) = (iI (3)) then ((f_X10_byteAt (h.1 (.inl 1) 8 3) h).bind (fun a1 => if a1 = x1 then (some ((iI (1)))) else (some ((iI (0)))))) else (some ((iI (0))))
theorem c_X10_isSign {x1 : Int32} {h : am_H} {a : Int32} (e : f_X10_isSign x1 h = some a) : am_Mi yX10_isSign cX10_isSign 2 (some .boolean) 2 43 [am_r (.inl 1) 8, am_i x1] h a h := by
  refine am_M.ofi (A := [some (am_r (.inl 1) 8), some (am_i x1)]) (by decide +kernel) rfl (ble rfl) (fun Q hQ => ?_)
  have H : wp (f_X10_isSign x1 h) (fun a => Q (some (am_i a)) h) := ⟨_, e, hQ⟩
  unfold f_X10_isSign at H
  refine rl_a0 dX10_isSign_0 ?_
  refine ar_getI dX10_isSign_1 fg_X10_49 rfl rfl (ok_X rfl) ?_
  refine ar_iconst (iI (3)) dX10_isSign_4 rfl ?_
  refine ar_ic_ne 24 dX10_isSign_5 (by decide) (fun c1 => ?_) (fun c1 => ?_)
  · replace H := wp_f c1 H
    refine ar_iconst (iI (0)) dX10_isSign_24 rfl ?_
    replace H := wp_s H
    exact ar_iret dX10_isSign_25 rfl rfl H
  · replace H := wp_t c1 H
    refine rl_a0 dX10_isSign_8 ?_
    refine rl_a0 dX10_isSign_9 ?_
    refine ar_getI dX10_isSign_10 fg_X10_46 rfl rfl (ok_X rfl) ?_
    obtain ⟨a1, e1, H⟩ := wp_b H
    refine rc_V1i dX10_isSign_13 ml_X10_26 mc_X10_byteAt (c_X10_byteAt e1) rfl rfl rfl (ok_X rfl) rfl rfl rfl ?_
    refine rl_i1 dX10_isSign_16 ?_
    refine ar_ic_ne 24 dX10_isSign_17 (by decide) (fun c2 => ?_) (fun c2 => ?_)
    · replace H := wp_f c2 H
      refine ar_iconst (iI (0)) dX10_isSign_24 rfl ?_
      replace H := wp_s H
      exact ar_iret dX10_isSign_25 rfl rfl H
    · replace H := wp_t c2 H
      refine ar_iconst (iI (1)) dX10_isSign_20 rfl ?_
      refine ar_goto 25 dX10_isSign_21 (by decide) ?_
      replace H := wp_s H
      exact ar_iret dX10_isSign_25 rfl rfl H
noncomputable def f_X10_takeSign (x1 : Int32) (h : am_H) : Option (Int32 × am_H) :=
  (f_X10_isSign x1 h).bind (fun a1 => if a1 = 0 then ((f_X10_fail (iI (1)) h).bind (fun a2 => if zb a2.1 then (some ((a2.1, a2.2))) else none)) else ((f_X10_advance h).bind (fun a2 => some (((iI (1)), a2)))))
theorem c_X10_takeSign {x1 : Int32} {h : am_H} {a : Int32 × am_H} (e : f_X10_takeSign x1 h = some a) : am_Mi yX10_takeSign cX10_takeSign 2 (some .boolean) 3 64 [am_r (.inl 1) 8, am_i x1] h a.1 a.2 := by
  refine am_M.ofi (A := [some (am_r (.inl 1) 8), some (am_i x1)]) (by decide +kernel) rfl (ble rfl) (fun Q hQ => ?_)
  have H : wp (f_X10_takeSign x1 h) (fun a => Q (some (am_i a.1)) a.2) := ⟨_, e, hQ⟩
  unfold f_X10_takeSign at H
  refine rl_a0 dX10_takeSign_0 ?_
  refine rl_i1 dX10_takeSign_1 ?_
  obtain ⟨a1, e1, H⟩ := wp_b H
  refine rc_V1i dX10_takeSign_2 ml_X10_65 mc_X10_isSign (c_X10_isSign e1) rfl rfl rfl (ok_X rfl) rfl rfl rfl ?_
  refine ar_if_ne 14 dX10_takeSign_5 (by decide) (fun c1 => ?_) (fun c1 => ?_)
  · replace H := wp_f c1 H
    refine rl_a0 dX10_takeSign_14 ?_
    obtain ⟨a2, e2, H⟩ := wp_b H
    refine rc_V0v dX10_takeSign_15 ml_X10_40 mc_X10_advance (c_X10_advance e2) rfl rfl rfl (ok_X rfl) rfl rfl rfl ?_
    refine ar_iconst (iI (1)) dX10_takeSign_18 rfl ?_
    replace H := wp_s H
    exact ar_iret dX10_takeSign_19 rfl rfl H
  · replace H := wp_t c1 H
    refine rl_a0 dX10_takeSign_8 ?_
    refine ar_iconst (iI (1)) dX10_takeSign_9 rfl ?_
    obtain ⟨a2, e2, H⟩ := wp_b H
    refine rc_V1i dX10_takeSign_10 ml_X10_69 mc_X10_fail (c_X10_fail e2) rfl rfl rfl (ok_X rfl) rfl rfl rfl ?_
    obtain ⟨b1, H⟩ := wp_g H
    replace H := wp_s H
    exact ar_iret dX10_takeSign_13 rfl (zb_n b1) H
noncomputable def s_X10_append  : am_S am_H → Option (am_S am_H ⊕ am_H) := fun s => match s with
  | (3, [x1, x2], [], [], h) => if x2 < 0 then (some (.inr (h))) else (if (iI (500)) ≤ (h.1 (.inl 1) 8 1) then (some (.inl (3, [x1, (x2 + iI (-8))], [], [], h))) else (if ib (h.1 (.inl 1) 8 1) 500 then (am_lt (am_u h (.inl 1) 9 (((h.1 (.inl 1) 8 1)).toNatClampNeg) (vp_nar .byte (((x1.toUInt32 >>> (x2.toUInt32 &&& Int32.toUInt32 31)).toInt32).toInt8.toInt32))) (fun h1 => am_lt (am_u h1 (.inl 1) 8 1 ((h1.1 (.inl 1) 8 1) + (iI (1)))) (fun h2 => some (.inl (3, [x1, (x2 + iI (-8))], [], [], h2))))) else none))
  | _ => none
noncomputable def f_X10_append_3  (x1 : Int32) (x2 : Int32) (h : am_H) : Option am_H := lp (s_X10_append) (3, [x1, x2], [], [], h)
theorem e_X10_append_3  (x1 : Int32) (x2 : Int32) (h : am_H) : f_X10_append_3 x1 x2 h = (if x2 < 0 then (some (h)) else (if (iI (500)) ≤ (h.1 (.inl 1) 8 1) then (f_X10_append_3 x1 (x2 + iI (-8)) h) else (if ib (h.1 (.inl 1) 8 1) 500 then (am_lt (am_u h (.inl 1) 9 (((h.1 (.inl 1) 8 1)).toNatClampNeg) (vp_nar .byte (((x1.toUInt32 >>> (x2.toUInt32 &&& Int32.toUInt32 31)).toInt32).toInt8.toInt32))) (fun h1 => am_lt (am_u h1 (.inl 1) 8 1 ((h1.1 (.inl 1) 8 1) + (iI (1)))) (fun h2 => f_X10_append_3 x1 (x2 + iI (-8)) h2))) else none))) := by
  show lp _ _ = _
  rw [lp_eq, s_X10_append]
  simp only [lpk_i, lpk_b, lpk_l, lpk_n, lpk_j, lpk_r] <;> rfl
noncomputable def f_X10_append (x1 : Int32) (h : am_H) : Option am_H :=
  f_X10_append_3 x1 (iI (24)) h
theorem c_X10_append_L  {Q : Option am_v → am_H → Prop} : ∀ s, wp (lp (s_X10_append) s) (fun a => Q none a) → ((∀ x1 x2 h, s = (3, [x1, x2], [], [], h) → am_V RX10 cX10_append 3 (none) 0 0 0 0 none (am_Tm cX10_append (none) Q) 0 0 3 [some (am_r (.inl 1) 8), some (am_i x1), some (am_i x2)] [] h)) := by
  refine lp_ind _ _ (fun s H => fun x1 x2 h e => ?_)
  · subst e
    rw [s_X10_append] at H
    refine rl_i2 dX10_append_3 ?_
    refine ar_if_lt 46 dX10_append_4 (by decide) (fun c1 => ?_) (fun c1 => ?_)
    · replace H := wp_t c1 H
      replace H := lp_re H
      exact ar_vret dX10_append_46 rfl H
    · replace H := wp_f c1 H
      refine rl_a0 dX10_append_7 ?_
      refine ar_getI dX10_append_8 fg_X10_19 rfl rfl (ok_X rfl) ?_
      refine ar_sipush (iI (500)) dX10_append_11 rfl ?_
      refine ar_ic_ge 40 dX10_append_14 (by decide) (fun c2 => ?_) (fun c2 => ?_)
      · replace H := wp_t c2 H
        refine rn_m_2 (v := x2 + iI (-8)) dX10_append_40 rfl trivial rfl ?_
        refine ar_goto 3 dX10_append_43 (by decide) ?_
        exact am_V.wk (am_s (am_s (am_s am_0))) ((lp_in H) _ _ _ rfl)
      · replace H := wp_f c2 H
        refine rl_a0 dX10_append_17 ?_
        refine rg_R (.inl 1) 9 dX10_append_18 fg_X10_9 rfl rfl rfl (ok_X rfl) ?_
        refine rl_a0 dX10_append_21 ?_
        refine ar_getI dX10_append_22 fg_X10_19 rfl rfl (ok_X rfl) ?_
        refine rl_i1 dX10_append_25 ?_
        refine rl_i2 dX10_append_26 ?_
        refine ar_iushr dX10_append_27 ?_
        refine ar_i2b dX10_append_28 ?_
        obtain ⟨b1, H⟩ := wp_g H
        refine ar_bast dX10_append_29 rfl (ok_X rfl) (ib_in b1) ?_
        replace H := wp_l H
        generalize am_u h (.inl 1) 9 (((h.1 (.inl 1) 8 1)).toNatClampNeg) (vp_nar .byte (((x1.toUInt32 >>> (x2.toUInt32 &&& Int32.toUInt32 31)).toInt32).toInt8.toInt32)) = h1 at H ⊢
        refine rl_a0 dX10_append_30 ?_
        refine ar_dup dX10_append_31 trivial ?_
        refine ar_getI dX10_append_32 fg_X10_19 rfl rfl (ok_X rfl) ?_
        refine ar_iconst (iI (1)) dX10_append_35 rfl ?_
        refine ar_iadd dX10_append_36 ?_
        refine ar_putI dX10_append_37 fg_X10_19 rfl rfl (ok_X rfl) rfl rfl ?_
        replace H := wp_l H
        generalize am_u h1 (.inl 1) 8 1 ((h1.1 (.inl 1) 8 1) + (iI (1))) = h2 at H ⊢
        refine rn_m_2 (v := x2 + iI (-8)) dX10_append_40 rfl trivial rfl ?_
        refine ar_goto 3 dX10_append_43 (by decide) ?_
        exact am_V.wk (am_s (am_s (am_s am_0))) ((lp_in H) _ _ _ rfl)
theorem c_X10_append {x1 : Int32} {h : am_H} {a : am_H} (e : f_X10_append x1 h = some a) : am_Mv yX10_append cX10_append 3 (none) 0 0 [am_r (.inl 1) 8, am_i x1] h a := by
  refine am_M.ofv (A := [some (am_r (.inl 1) 8), some (am_i x1), none]) (by decide +kernel) rfl (ble rfl) (fun Q hQ => ?_)
  have H : wp (f_X10_append x1 h) (fun a => Q none a) := ⟨_, e, hQ⟩
  unfold f_X10_append at H
  refine ar_bipush (iI (24)) dX10_append_0 rfl ?_
  refine rs_i2 dX10_append_2 rfl trivial ?_
  exact am_V.wk (am_s (am_s (am_s am_0))) ((c_X10_append_L  _ H) _ _ _ rfl)
