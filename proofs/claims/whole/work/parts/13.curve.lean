theorem k_isWithin (h : am_H) (n a b : Int) (hn : -2147483648 ≤ n ∧ n < 2147483648) (ha : -2147483648 ≤ a ∧ a < 2147483648) (hb : -2147483648 ≤ b ∧ b < 2147483648) : am_Mi yX11_isWithin cX11_isWithin 3 (some .boolean) 0 0 [am_i ((iI n)), am_i ((iI a)), am_i ((iI b))] h (iI (if a ≤ n ∧ n ≤ b then 1 else 0)) h := by
  refine am_M.ofi (A := [some (am_i ((iI n))), some (am_i ((iI a))), some (am_i ((iI b)))]) (by decide +kernel) rfl (ble rfl) (fun Q hQ => ?_)
  refine rl_i0 dX11_isWithin_0 ?_
  refine rl_i1 dX11_isWithin_1 ?_
  refine ar_ic_lt 14 dX11_isWithin_2 (by decide) (fun c1 => ?_) (fun c1 => ?_)
  · rw [iI_lt hn.1 hn.2 ha.1 ha.2] at c1
    rw [if_neg (by omega)] at hQ
    refine ar_iconst (iI (0)) dX11_isWithin_14 rfl ?_
    exact ar_iret dX11_isWithin_15 rfl rfl (hQ)
  · rw [iI_lt hn.1 hn.2 ha.1 ha.2] at c1
    refine rl_i0 dX11_isWithin_5 ?_
    refine rl_i2 dX11_isWithin_6 ?_
    refine ar_ic_gt 14 dX11_isWithin_7 (by decide) (fun c2 => ?_) (fun c2 => ?_)
    · rw [iI_lt hb.1 hb.2 hn.1 hn.2] at c2
      rw [if_neg (by omega)] at hQ
      refine ar_iconst (iI (0)) dX11_isWithin_14 rfl ?_
      exact ar_iret dX11_isWithin_15 rfl rfl (hQ)
    · rw [iI_lt hb.1 hb.2 hn.1 hn.2] at c2
      rw [if_pos (by omega)] at hQ
      refine ar_iconst (iI (1)) dX11_isWithin_10 rfl ?_
      refine ar_goto 15 dX11_isWithin_11 (by decide) ?_
      exact ar_iret dX11_isWithin_15 rfl rfl (hQ)
theorem k_min (h : am_H) (a b : Int) (ha : -2147483648 ≤ a ∧ a < 2147483648) (hb : -2147483648 ≤ b ∧ b < 2147483648) : am_Mi yJ9_min_7cf53 cJ9_min_7cf53 2 (some .int) 0 0 [am_i ((iI a)), am_i ((iI b))] h (iI (if a ≤ b then a else b)) h := by
  refine am_M.ofi (A := [some (am_i ((iI a))), some (am_i ((iI b)))]) (by decide +kernel) rfl (ble rfl) (fun Q hQ => ?_)
  refine rl_i0 dJ9_min_7cf53_0 ?_
  refine rl_i1 dJ9_min_7cf53_1 ?_
  refine ar_ic_gt 9 dJ9_min_7cf53_2 (by decide) (fun c1 => ?_) (fun c1 => ?_)
  · rw [iI_lt hb.1 hb.2 ha.1 ha.2] at c1
    rw [if_neg (by omega)] at hQ
    refine rl_i1 dJ9_min_7cf53_9 ?_
    exact ar_iret dJ9_min_7cf53_10 rfl rfl (hQ)
  · rw [iI_lt hb.1 hb.2 ha.1 ha.2] at c1
    rw [if_pos (by omega)] at hQ
    refine rl_i0 dJ9_min_7cf53_5 ?_
    refine ar_goto 10 dJ9_min_7cf53_6 (by decide) ?_
    exact ar_iret dJ9_min_7cf53_10 rfl rfl (hQ)
theorem k_max (h : am_H) (a b : Int) (ha : -2147483648 ≤ a ∧ a < 2147483648) (hb : -2147483648 ≤ b ∧ b < 2147483648) : am_Mi yJ9_max_7cf53 cJ9_max_7cf53 2 (some .int) 0 0 [am_i ((iI a)), am_i ((iI b))] h (iI (if a < b then b else a)) h := by
  refine am_M.ofi (A := [some (am_i ((iI a))), some (am_i ((iI b)))]) (by decide +kernel) rfl (ble rfl) (fun Q hQ => ?_)
  refine rl_i0 dJ9_max_7cf53_0 ?_
  refine rl_i1 dJ9_max_7cf53_1 ?_
  refine ar_ic_lt 9 dJ9_max_7cf53_2 (by decide) (fun c1 => ?_) (fun c1 => ?_)
  · rw [iI_lt ha.1 ha.2 hb.1 hb.2] at c1
    rw [if_pos c1] at hQ
    refine rl_i1 dJ9_max_7cf53_9 ?_
    exact ar_iret dJ9_max_7cf53_10 rfl rfl (hQ)
  · rw [iI_lt ha.1 ha.2 hb.1 hb.2] at c1
    rw [if_neg c1] at hQ
    refine rl_i0 dJ9_max_7cf53_5 ?_
    refine ar_goto 10 dJ9_max_7cf53_6 (by decide) ?_
    exact ar_iret dJ9_max_7cf53_10 rfl rfl (hQ)
theorem k_tenths (h : am_H) {k : Nat} (hk : k < 10) {v : pv_T} (hv : pv_ok v) (R : cl_cu h k v) {i : Nat} (hi : i < v.1 0) : am_Mi yX0_tenths cX0_tenths 2 (some .int) 0 0 [am_r (.inr k) 1, am_i ((iI i))] h (iI (10 * v.2 2 i)) h := by
  have h8 := hv.1.1
  refine am_M.ofi (A := [some (am_r (.inr k) 1), some (am_i ((iI i)))]) (by decide +kernel) rfl (ble rfl) (fun Q hQ => ?_)
  refine ar_bipush (iI (10)) dX0_tenths_0 rfl ?_
  refine rl_a0 dX0_tenths_2 ?_
  refine rg_R (.inr k) 3 dX0_tenths_3 fg_X0_15 rfl rfl rfl (ok_P hk rfl) ?_
  refine rl_i1 dX0_tenths_6 ?_
  refine ar_iald dX0_tenths_7 rfl (ok_P hk rfl) (iI_in (by omega) (by omega) (by decide)) ?_
  refine ar_imul dX0_tenths_8 ?_
  rw [iI_cl (by omega), (R.2 i hi).2.1, iI_m]
  exact ar_iret dX0_tenths_9 rfl rfl (hQ)
theorem k_turnAhead (h : am_H) {k : Nat} (hk : k < 10) {v : pv_T} (hv : pv_ok v) (R : cl_cu h k v) {n : Nat} (hn : n ≤ v.1 0) : am_Mi yX0_turnAhead cX0_turnAhead 4 (some .int) 0 0 [am_r (.inr k) 1, am_i ((iI n))] h (iI (pv_tA v n)) h := by
  have h8 := hv.1.1
  refine am_M.ofi (A := [some (am_r (.inr k) 1), some (am_i ((iI n))), none, none]) (by decide +kernel) rfl (ble rfl) (fun Q hQ => ?_)
  refine ar_iconst (iI (0)) dX0_turnAhead_0 rfl ?_
  refine rs_i2 dX0_turnAhead_1 rfl trivial ?_
  refine ar_iconst (iI (0)) dX0_turnAhead_2 rfl ?_
  refine rs_i3 dX0_turnAhead_3 rfl trivial ?_
  have key : ∀ (d i : Nat), n - i = d → i ≤ n → (am_V RX0 cX0_turnAhead 4 (some .int) 0 0 0 0 none (am_Tm cX0_turnAhead (some .int) Q) 0 0 4 [some (am_r (.inr k) 1), some (am_i (iI n)), some (am_i (iI (pv_tA v i))), some (am_i (iI i))] [] h) := by
    intro d
    induction d with
    | zero =>
      intro i hd hi
      have e : i = n := by omega
      subst e
      refine rl_i3 dX0_turnAhead_4 ?_
      refine rl_i1 dX0_turnAhead_5 ?_
      refine ar_ic_ge 27 dX0_turnAhead_6 (by decide) (fun c1 => ?_) (fun c1 => ?_)
      · refine rl_i2 dX0_turnAhead_27 ?_
        exact ar_iret dX0_turnAhead_28 rfl rfl (hQ)
      · exact absurd (Int32.le_refl _) c1
    | succ d ih =>
      intro i hd hi
      refine rl_i3 dX0_turnAhead_4 ?_
      refine rl_i1 dX0_turnAhead_5 ?_
      refine ar_ic_ge 27 dX0_turnAhead_6 (by decide) (fun c1 => ?_) (fun c1 => ?_)
      · rw [iI_le (by omega) (by omega) (by omega) (by omega)] at c1
        omega
      · refine rl_i2 dX0_turnAhead_9 ?_
        refine ar_bipush (iI (10)) dX0_turnAhead_10 rfl ?_
        refine rl_a0 dX0_turnAhead_12 ?_
        refine rg_R (.inr k) 3 dX0_turnAhead_13 fg_X0_15 rfl rfl rfl (ok_P hk rfl) ?_
        refine rl_i3 dX0_turnAhead_16 ?_
        refine ar_iald dX0_turnAhead_17 rfl (ok_P hk rfl) (iI_in (by omega) (by omega) (by decide)) ?_
        refine ar_imul dX0_turnAhead_18 ?_
        refine ar_iadd dX0_turnAhead_19 ?_
        refine rs_i2 dX0_turnAhead_20 rfl trivial ?_
        refine rn_1_3 dX0_turnAhead_21 rfl trivial ?_
        refine ar_goto 4 dX0_turnAhead_24 (by decide) ?_
        rw [iI_cl (by omega), (R.2 i (by omega)).2.1, iI_m, iI_a, iI_1]
        exact ih (i + 1) (by omega) (by omega)
  exact key n 0 (by omega) (by omega)
theorem k_partsAhead (h : am_H) {k : Nat} (hk : k < 10) {v : pv_T} (hv : pv_ok v) (R : cl_cu h k v) {n : Nat} (hn : n ≤ v.1 0) : am_Mi yX0_partsAhead cX0_partsAhead 4 (some .int) 0 0 [am_r (.inr k) 1, am_i ((iI n))] h (iI (pv_pA v n)) h := by
  have h8 := hv.1.1
  refine am_M.ofi (A := [some (am_r (.inr k) 1), some (am_i ((iI n))), none, none]) (by decide +kernel) rfl (ble rfl) (fun Q hQ => ?_)
  refine ar_iconst (iI (0)) dX0_partsAhead_0 rfl ?_
  refine rs_i2 dX0_partsAhead_1 rfl trivial ?_
  refine ar_iconst (iI (0)) dX0_partsAhead_2 rfl ?_
  refine rs_i3 dX0_partsAhead_3 rfl trivial ?_
  have key : ∀ (d i : Nat), n - i = d → i ≤ n → (am_V RX0 cX0_partsAhead 4 (some .int) 0 0 0 0 none (am_Tm cX0_partsAhead (some .int) Q) 0 0 4 [some (am_r (.inr k) 1), some (am_i (iI n)), some (am_i (iI (pv_pA v i))), some (am_i (iI i))] [] h) := by
    intro d
    induction d with
    | zero =>
      intro i hd hi
      have e : i = n := by omega
      subst e
      refine rl_i3 dX0_partsAhead_4 ?_
      refine rl_i1 dX0_partsAhead_5 ?_
      refine ar_ic_ge 34 dX0_partsAhead_6 (by decide) (fun c1 => ?_) (fun c1 => ?_)
      · refine rl_i2 dX0_partsAhead_34 ?_
        exact ar_iret dX0_partsAhead_35 rfl rfl (hQ)
      · exact absurd (Int32.le_refl _) c1
    | succ d ih =>
      intro i hd hi
      refine rl_i3 dX0_partsAhead_4 ?_
      refine rl_i1 dX0_partsAhead_5 ?_
      refine ar_ic_ge 34 dX0_partsAhead_6 (by decide) (fun c1 => ?_) (fun c1 => ?_)
      · rw [iI_le (by omega) (by omega) (by omega) (by omega)] at c1
        omega
      · refine rl_i2 dX0_partsAhead_9 ?_
        refine rl_a0 dX0_partsAhead_10 ?_
        refine rg_R (.inr k) 2 dX0_partsAhead_11 fg_X0_9 rfl rfl rfl (ok_P hk rfl) ?_
        refine rl_i3 dX0_partsAhead_14 ?_
        refine ar_iald dX0_partsAhead_15 rfl (ok_P hk rfl) (iI_in (by omega) (by omega) (by decide)) ?_
        refine ar_bipush (iI (10)) dX0_partsAhead_16 rfl ?_
        refine ar_imul dX0_partsAhead_18 ?_
        refine rl_a0 dX0_partsAhead_19 ?_
        refine rg_R (.inr k) 3 dX0_partsAhead_20 fg_X0_15 rfl rfl rfl (ok_P hk rfl) ?_
        refine rl_i3 dX0_partsAhead_23 ?_
        refine ar_iald dX0_partsAhead_24 rfl (ok_P hk rfl) (iI_in (by omega) (by omega) (by decide)) ?_
        refine ar_imul dX0_partsAhead_25 ?_
        refine ar_iadd dX0_partsAhead_26 ?_
        refine rs_i2 dX0_partsAhead_27 rfl trivial ?_
        refine rn_1_3 dX0_partsAhead_28 rfl trivial ?_
        refine ar_goto 4 dX0_partsAhead_31 (by decide) ?_
        rw [iI_cl (by omega), (R.2 i (by omega)).2.1, (R.2 i (by omega)).1, iI_m, iI_m, iI_a, iI_1, Int.mul_assoc]
        exact ih (i + 1) (by omega) (by omega)
  exact key n 0 (by omega) (by omega)
theorem k_wholeTurn (h : am_H) {k : Nat} (hk : k < 10) {v : pv_T} (hv : pv_ok v) (R : cl_cu h k v) : am_Mi yX0_wholeTurn cX0_wholeTurn 1 (some .int) 1 23 [am_r (.inr k) 1] h (iI (pv_wT v)) h := by
  refine am_M.ofi (A := [some (am_r (.inr k) 1)]) (by decide +kernel) rfl (ble rfl) (fun Q hQ => ?_)
  refine rl_a0 dX0_wholeTurn_0 ?_
  refine rl_a0 dX0_wholeTurn_1 ?_
  refine ar_getI dX0_wholeTurn_2 fg_X0_25 rfl rfl (ok_P hk rfl) ?_
  rw [R.1]
  refine rc_V1i dX0_wholeTurn_5 ml_X0_33 mc_X0_turnAhead (k_turnAhead h hk hv R (Nat.le_refl _)) rfl rfl rfl (ok_P hk rfl) rfl rfl rfl ?_
  exact ar_iret dX0_wholeTurn_8 rfl rfl (hQ)
theorem k_wholeParts (h : am_H) {k : Nat} (hk : k < 10) {v : pv_T} (hv : pv_ok v) (R : cl_cu h k v) : am_Mi yX0_wholeParts cX0_wholeParts 1 (some .int) 1 23 [am_r (.inr k) 1] h (iI (pv_wP v)) h := by
  refine am_M.ofi (A := [some (am_r (.inr k) 1)]) (by decide +kernel) rfl (ble rfl) (fun Q hQ => ?_)
  refine rl_a0 dX0_wholeParts_0 ?_
  refine rl_a0 dX0_wholeParts_1 ?_
  refine ar_getI dX0_wholeParts_2 fg_X0_25 rfl rfl (ok_P hk rfl) ?_
  rw [R.1]
  refine rc_V1i dX0_wholeParts_5 ml_X0_37 mc_X0_partsAhead (k_partsAhead h hk hv R (Nat.le_refl _)) rfl rfl rfl (ok_P hk rfl) rfl rfl rfl ?_
  exact ar_iret dX0_wholeParts_8 rfl rfl (hQ)
theorem k_arcAround (h : am_H) {k : Nat} (hk : k < 10) {v : pv_T} (hv : pv_ok v) (R : cl_cu h k v) {t : Int} (ht : -2147483648 ≤ t ∧ t < 2147483648) : am_Mi yX0_arcAround cX0_arcAround 4 (some .int) 0 0 [am_r (.inr k) 1, am_i ((iI t))] h (iI (pv_ar v t)) h := by
  have h8 := hv.1.1
  refine am_M.ofi (A := [some (am_r (.inr k) 1), some (am_i ((iI t))), none, none]) (by decide +kernel) rfl (ble rfl) (fun Q hQ => ?_)
  refine ar_iconst (iI (0)) dX0_arcAround_0 rfl ?_
  refine rs_i2 dX0_arcAround_1 rfl trivial ?_
  refine ar_iconst (iI (0)) dX0_arcAround_2 rfl ?_
  refine rs_i3 dX0_arcAround_3 rfl trivial ?_
  have key : ∀ (d i : Nat), v.1 0 - i = d → i ≤ v.1 0 → pv_ar v t = (if pv_fst (fun i => decide (t < pv_tA v (i + 1))) d i < v.1 0 then (pv_fst (fun i => decide (t < pv_tA v (i + 1))) d i : Int) else (v.1 0 : Int) - 1) → (am_V RX0 cX0_arcAround 4 (some .int) 0 0 0 0 none (am_Tm cX0_arcAround (some .int) Q) 0 0 4 [some (am_r (.inr k) 1), some (am_i (iI t)), some (am_i (iI (pv_tA v i))), some (am_i (iI i))] [] h) := by
    intro d
    induction d with
    | zero =>
      intro i hd hi hp
      have e : i = v.1 0 := by omega
      rw [if_neg (by simp [pv_fst]; omega)] at hp
      rw [hp] at hQ
      refine rl_i3 dX0_arcAround_4 ?_
      refine rl_a0 dX0_arcAround_5 ?_
      refine ar_getI dX0_arcAround_6 fg_X0_25 rfl rfl (ok_P hk rfl) ?_
      refine ar_ic_ge 37 dX0_arcAround_9 (by decide) (fun c1 => ?_) (fun c1 => ?_)
      · refine rl_a0 dX0_arcAround_37 ?_
        refine ar_getI dX0_arcAround_38 fg_X0_25 rfl rfl (ok_P hk rfl) ?_
        refine ar_if_le 53 dX0_arcAround_41 (by decide) (fun c2 => ?_) (fun c2 => ?_)
        · rw [R.1] at c2
          have c2 := (iI_le (by omega) (by omega) (by decide) (by decide)).mp (show iI (v.1 0) ≤ iI 0 from c2)
          refine ar_iconst (iI (-1)) dX0_arcAround_53 rfl ?_
          rw [show (v.1 0 : Int) - 1 = -1 by omega] at hQ
          exact ar_iret dX0_arcAround_54 rfl rfl (hQ)
        · refine rl_a0 dX0_arcAround_44 ?_
          refine ar_getI dX0_arcAround_45 fg_X0_25 rfl rfl (ok_P hk rfl) ?_
          refine ar_iconst (iI (1)) dX0_arcAround_48 rfl ?_
          refine ar_isub dX0_arcAround_49 ?_
          refine ar_goto 54 dX0_arcAround_50 (by decide) ?_
          rw [R.1, iI_s]
          exact ar_iret dX0_arcAround_54 rfl rfl (hQ)
      · rw [R.1, iI_le (by omega) (by omega) (by omega) (by omega)] at c1
        omega
    | succ d ih =>
      intro i hd hi hp
      have hb := pv_tA_b hv (n := i + 1) (by omega)
      refine rl_i3 dX0_arcAround_4 ?_
      refine rl_a0 dX0_arcAround_5 ?_
      refine ar_getI dX0_arcAround_6 fg_X0_25 rfl rfl (ok_P hk rfl) ?_
      refine ar_ic_ge 37 dX0_arcAround_9 (by decide) (fun c1 => ?_) (fun c1 => ?_)
      · rw [R.1, iI_le (by omega) (by omega) (by omega) (by omega)] at c1
        omega
      · refine rl_i2 dX0_arcAround_12 ?_
        refine ar_bipush (iI (10)) dX0_arcAround_13 rfl ?_
        refine rl_a0 dX0_arcAround_15 ?_
        refine rg_R (.inr k) 3 dX0_arcAround_16 fg_X0_15 rfl rfl rfl (ok_P hk rfl) ?_
        refine rl_i3 dX0_arcAround_19 ?_
        refine ar_iald dX0_arcAround_20 rfl (ok_P hk rfl) (iI_in (by omega) (by omega) (by decide)) ?_
        refine ar_imul dX0_arcAround_21 ?_
        refine ar_iadd dX0_arcAround_22 ?_
        refine rs_i2 dX0_arcAround_23 rfl trivial ?_
        refine rl_i2 dX0_arcAround_24 ?_
        refine rl_i1 dX0_arcAround_25 ?_
        refine ar_ic_le 31 dX0_arcAround_26 (by decide) (fun c2 => ?_) (fun c2 => ?_)
        · rw [iI_cl (by omega), (R.2 i (by omega)).2.1, iI_m, iI_a, ← pv_tA_s] at c2
          rw [iI_le (by omega) (by omega) (by omega) (by omega)] at c2
          rw [iI_cl (by omega), (R.2 i (by omega)).2.1, iI_m, iI_a, ← pv_tA_s]
          refine rn_1_3 dX0_arcAround_31 rfl trivial ?_
          refine ar_goto 4 dX0_arcAround_34 (by decide) ?_
          rw [iI_1]
          refine ih (i + 1) (by omega) (by omega) ?_
          rw [hp, pv_fst_f (by simp; omega)]
        · rw [iI_cl (by omega), (R.2 i (by omega)).2.1, iI_m, iI_a, ← pv_tA_s] at c2
          rw [iI_le (by omega) (by omega) (by omega) (by omega)] at c2
          refine rl_i3 dX0_arcAround_29 ?_
          have e : pv_fst (fun i => decide (t < pv_tA v (i + 1))) (d + 1) i = i := pv_fst_t (by simp; omega)
          rw [e, if_pos (by omega)] at hp
          rw [hp] at hQ
          exact ar_iret dX0_arcAround_30 rfl rfl (hQ)
  exact key (v.1 0) 0 (by omega) (by omega) rfl
theorem pv_ar_b (v : pv_T) (t : Int) : -1 ≤ pv_ar v t ∧ pv_ar v t < v.1 0 := by
  unfold pv_ar
  split <;> omega
theorem k_hardnessAt (h : am_H) {k : Nat} (hk : k < 10) {v : pv_T} (hv : pv_ok v) (R : cl_cu h k v) {t : Int} (ht : -2147483648 ≤ t ∧ t < 2147483648) : am_Mi yX0_hardnessAt cX0_hardnessAt 3 (some .int) 1 23 [am_r (.inr k) 1, am_i ((iI t))] h (iI (pv_hd v t)) h := by
  have h8 := hv.1.1
  have hb := pv_ar_b v t
  refine am_M.ofi (A := [some (am_r (.inr k) 1), some (am_i ((iI t))), none]) (by decide +kernel) rfl (ble rfl) (fun Q hQ => ?_)
  refine rl_a0 dX0_hardnessAt_0 ?_
  refine rl_i1 dX0_hardnessAt_1 ?_
  refine rc_V1i dX0_hardnessAt_2 ml_X0_40 mc_X0_arcAround (k_arcAround h hk hv R ht) rfl rfl rfl (ok_P hk rfl) rfl rfl rfl ?_
  refine rs_i2 dX0_hardnessAt_5 rfl trivial ?_
  refine rl_i2 dX0_hardnessAt_6 ?_
  refine ar_iconst (iI (0)) dX0_hardnessAt_7 rfl ?_
  refine rl_a0 dX0_hardnessAt_8 ?_
  refine ar_getI dX0_hardnessAt_9 fg_X0_25 rfl rfl (ok_P hk rfl) ?_
  refine ar_iconst (iI (1)) dX0_hardnessAt_12 rfl ?_
  refine ar_isub dX0_hardnessAt_13 ?_
  rw [R.1, iI_s]
  refine rc_N3i dX0_hardnessAt_14 ml_X0_43 mc_X11_isWithin (k_isWithin h (pv_ar v t) 0 ((v.1 0 : Int) - 1) (by omega) (by omega) (by omega)) rfl rfl rfl ?_
  unfold pv_hd at hQ
  refine ar_if_eq 29 dX0_hardnessAt_17 (by decide) (fun c1 => ?_) (fun c1 => ?_)
  · have c1 : ¬ 0 ≤ pv_ar v t := by
      intro z
      rw [if_pos (by omega)] at c1
      exact absurd c1 (by decide)
    rw [if_neg c1] at hQ
    refine ar_iconst (iI (0)) dX0_hardnessAt_29 rfl ?_
    exact ar_iret dX0_hardnessAt_30 rfl rfl (hQ)
  · have c1 : 0 ≤ pv_ar v t := by
      refine Classical.byContradiction fun z => c1 ?_
      rw [if_neg (by omega)]
      rfl
    rw [if_pos c1] at hQ
    refine rl_a0 dX0_hardnessAt_20 ?_
    refine rg_R (.inr k) 4 dX0_hardnessAt_21 fg_X0_18 rfl rfl rfl (ok_P hk rfl) ?_
    refine rl_i2 dX0_hardnessAt_24 ?_
    refine ar_iald dX0_hardnessAt_25 rfl (ok_P hk rfl) (iI_in c1 (by omega) (by decide)) ?_
    refine ar_goto 30 dX0_hardnessAt_26 (by decide) ?_
    rw [iI_clz c1 (by omega), (R.2 _ (by omega)).2.2.1]
    exact ar_iret dX0_hardnessAt_30 rfl rfl (hQ)
theorem pv_ps_b {v : pv_T} {t : Int} {i : Nat} (h : 0 ≤ v.2 2 i) : 0 ≤ pv_ps v t i ∧ pv_ps v t i ≤ 10 * v.2 2 i := by
  unfold pv_ps
  split
  · omega
  · split <;> omega
/-- what is left of a turn ahead of arc i -/
def pv_lf (v : pv_T) (t : Int) (i : Nat) : Int := if t < pv_tA v i then 0 else t - pv_tA v i
theorem pv_lf_s {v : pv_T} {t : Int} {i : Nat} (h : 0 ≤ v.2 2 i) : pv_lf v t (i + 1) = pv_lf v t i - pv_ps v t i := by
  unfold pv_lf pv_ps
  rw [pv_tA_s]
  split <;> split <;> (try split) <;> omega
theorem pv_lf_m {v : pv_T} {t : Int} {i : Nat} (h : 0 ≤ v.2 2 i) : (if pv_lf v t i ≤ 10 * v.2 2 i then pv_lf v t i else 10 * v.2 2 i) = pv_ps v t i := by
  unfold pv_lf pv_ps
  split <;> split <;> (try split) <;> omega
theorem pv_lf_b {v : pv_T} (hv : pv_ok v) {t : Int} (h0 : 0 ≤ t) {i : Nat} (h : i ≤ v.1 0) : 0 ≤ pv_lf v t i ∧ pv_lf v t i ≤ t := by
  have := pv_tA_b hv h
  unfold pv_lf
  split <;> omega
theorem k_partsTo (h : am_H) {k : Nat} (hk : k < 10) {v : pv_T} (hv : pv_ok v) (R : cl_cu h k v) {t : Int} (ht : 0 ≤ t ∧ t < 2147483648) : am_Mi yX0_partsTo cX0_partsTo 6 (some .int) 1 21 [am_r (.inr k) 1, am_i ((iI t))] h (iI (pv_pT v t (v.1 0))) h := by
  have h8 := hv.1.1
  refine am_M.ofi (A := [some (am_r (.inr k) 1), some (am_i ((iI t))), none, none, none, none]) (by decide +kernel) rfl (ble rfl) (fun Q hQ => ?_)
  refine ar_iconst (iI (0)) dX0_partsTo_0 rfl ?_
  refine rs_i2 dX0_partsTo_1 rfl trivial ?_
  refine rl_i1 dX0_partsTo_2 ?_
  refine rs_i3 dX0_partsTo_3 rfl trivial ?_
  refine ar_iconst (iI (0)) dX0_partsTo_4 rfl ?_
  refine rs_i4 dX0_partsTo_5 rfl trivial ?_
  have key : ∀ (d i : Nat) (x : Option am_v), v.1 0 - i = d → i ≤ v.1 0 → (am_V RX0 cX0_partsTo 6 (some .int) 1 21 0 0 none (am_Tm cX0_partsTo (some .int) Q) 0 0 7 [some (am_r (.inr k) 1), some (am_i (iI t)), some (am_i (iI (pv_pT v t i))), some (am_i (iI (pv_lf v t i))), some (am_i (iI i)), x] [] h) := by
    intro d
    induction d with
    | zero =>
      intro i x hd hi
      have e : i = v.1 0 := by omega
      refine rl_i4 dX0_partsTo_7 ?_
      refine rl_a0 dX0_partsTo_9 ?_
      refine ar_getI dX0_partsTo_10 fg_X0_25 rfl rfl (ok_P hk rfl) ?_
      refine ar_ic_ge 52 dX0_partsTo_13 (by decide) (fun c1 => ?_) (fun c1 => ?_)
      · refine rl_i2 dX0_partsTo_52 ?_
        rw [e]
        exact ar_iret dX0_partsTo_53 rfl rfl (hQ)
      · rw [R.1, iI_le (by omega) (by omega) (by omega) (by omega)] at c1
        omega
    | succ d ih =>
      intro i x hd hi
      have hb := pv_lf_b hv ht.1 (i := i) (by omega)
      have hc := hv.2.1 i (by omega)
      refine rl_i4 dX0_partsTo_7 ?_
      refine rl_a0 dX0_partsTo_9 ?_
      refine ar_getI dX0_partsTo_10 fg_X0_25 rfl rfl (ok_P hk rfl) ?_
      refine ar_ic_ge 52 dX0_partsTo_13 (by decide) (fun c1 => ?_) (fun c1 => ?_)
      · rw [R.1, iI_le (by omega) (by omega) (by omega) (by omega)] at c1
        omega
      · refine rl_i3 dX0_partsTo_16 ?_
        refine rl_a0 dX0_partsTo_17 ?_
        refine rl_i4 dX0_partsTo_18 ?_
        refine rc_V1i dX0_partsTo_20 ml_X0_47 mc_X0_tenths (k_tenths h hk hv R (i := i) (by omega)) rfl rfl rfl (ok_P hk rfl) rfl rfl rfl ?_
        refine rc_S2i dX0_partsTo_23 ml_X0_50 mc_J9_min_7cf53 (k_min h (pv_lf v t i) (10 * v.2 2 i) (by omega) (by omega)) rfl rfl rfl ?_
        rw [pv_lf_m (by omega)]
        refine rs_i5 dX0_partsTo_26 rfl trivial ?_
        refine rl_i2 dX0_partsTo_28 ?_
        refine rl_a0 dX0_partsTo_29 ?_
        refine rg_R (.inr k) 2 dX0_partsTo_30 fg_X0_9 rfl rfl rfl (ok_P hk rfl) ?_
        refine rl_i4 dX0_partsTo_33 ?_
        refine ar_iald dX0_partsTo_35 rfl (ok_P hk rfl) (iI_in (by omega) (by omega) (by decide)) ?_
        refine rl_i5 dX0_partsTo_36 ?_
        refine ar_imul dX0_partsTo_38 ?_
        refine ar_iadd dX0_partsTo_39 ?_
        refine rs_i2 dX0_partsTo_40 rfl trivial ?_
        refine rl_i3 dX0_partsTo_41 ?_
        refine rl_i5 dX0_partsTo_42 ?_
        refine ar_isub dX0_partsTo_44 ?_
        refine rs_i3 dX0_partsTo_45 rfl trivial ?_
        refine rn_1_4 dX0_partsTo_46 rfl trivial ?_
        refine ar_goto 7 dX0_partsTo_49 (by decide) ?_
        rw [iI_cl (by omega), (R.2 i (by omega)).1, iI_m, iI_a, iI_s, iI_1, ← pv_lf_s (by omega)]
        exact ih (i + 1) _ (by omega) (by omega)
  have e0 : pv_lf v t 0 = t := by
    unfold pv_lf
    show (if t < 0 then 0 else t - 0) = t
    split <;> omega
  have := key (v.1 0) 0 none (by omega) (by omega)
  rw [e0] at this
  exact this

