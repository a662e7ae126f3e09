theorem k_isWithin (h : am_H) (n a b : Int) (hn : -2147483648 ≤ n ∧ n < 2147483648) (ha : -2147483648 ≤ a ∧ a < 2147483648) (hb : -2147483648 ≤ b ∧ b < 2147483648) : am_Mi yX11_isWithin cX11_isWithin 3 (some .boolean) 0 0 [am_i ((iI n)), am_i ((iI a)), am_i ((iI b))] h (iI (if a ≤ n ∧ n ≤ b then 1 else 0)) h := by
  refine am_M.ofi (A := [some (am_i ((iI n))), some (am_i ((iI a))), some (am_i ((iI b)))]) (by decide +kernel) rfl (ble rfl) (fun Q hQ => ?_)
  refine rl_i0 dX11_isWithin_0 ?_
  refine rl_i1 dX11_isWithin_1 ?_
  refine ar_ic_lt 14 dX11_isWithin_2 (by decide) (fun c1 => ?_) (fun c1 => ?_)
  · rw [iI_lt hn.1 hn.2 ha.1 ha.2] at c1
    rw [if_neg (by omega)] at hQ
    refine ar_iconst (iI (0)) dX11_isWithin_14 rfl ?_
    exact ar_iret dX11_isWithin_15 rfl rfl (hQ)
  · rw [iI_lt hn.1 hn.2 ha.1 ha.2] at c1
    refine rl_i0 dX11_isWithin_5 ?_
    refine rl_i2 dX11_isWithin_6 ?_
    refine ar_ic_gt 14 dX11_isWithin_7 (by decide) (fun c2 => ?_) (fun c2 => ?_)
    · rw [iI_lt hb.1 hb.2 hn.1 hn.2] at c2
      rw [if_neg (by omega)] at hQ
      refine ar_iconst (iI (0)) dX11_isWithin_14 rfl ?_
      exact ar_iret dX11_isWithin_15 rfl rfl (hQ)
    · rw [iI_lt hb.1 hb.2 hn.1 hn.2] at c2
      rw [if_pos (by omega)] at hQ
      refine ar_iconst (iI (1)) dX11_isWithin_10 rfl ?_
      refine ar_goto 15 dX11_isWithin_11 (by decide) ?_
      exact ar_iret dX11_isWithin_15 rfl rfl (hQ)
theorem k_min (h : am_H) (a b : Int) (ha : -2147483648 ≤ a ∧ a < 2147483648) (hb : -2147483648 ≤ b ∧ b < 2147483648) : am_Mi yJ9_min_7cf53 cJ9_min_7cf53 2 (some .int) 0 0 [am_i ((iI a)), am_i ((iI b))] h (iI (if a ≤ b then a else b)) h := by
  refine am_M.ofi (A := [some (am_i ((iI a))), some (am_i ((iI b)))]) (by decide +kernel) rfl (ble rfl) (fun Q hQ => ?_)
  refine rl_i0 dJ9_min_7cf53_0 ?_
  refine rl_i1 dJ9_min_7cf53_1 ?_
  refine ar_ic_gt 9 dJ9_min_7cf53_2 (by decide) (fun c1 => ?_) (fun c1 => ?_)
  · rw [iI_lt hb.1 hb.2 ha.1 ha.2] at c1
    rw [if_neg (by omega)] at hQ
    refine rl_i1 dJ9_min_7cf53_9 ?_
    exact ar_iret dJ9_min_7cf53_10 rfl rfl (hQ)
  · rw [iI_lt hb.1 hb.2 ha.1 ha.2] at c1
    rw [if_pos (by omega)] at hQ
    refine rl_i0 dJ9_min_7cf53_5 ?_
    refine ar_goto 10 dJ9_min_7cf53_6 (by decide) ?_
    exact ar_iret dJ9_min_7cf53_10 rfl rfl (hQ)
theorem k_max (h : am_H) (a b : Int) (ha : -2147483648 ≤ a ∧ a < 2147483648) (hb : -2147483648 ≤ b ∧ b < 2147483648) : am_Mi yJ9_max_7cf53 cJ9_max_7cf53 2 (some .int) 0 0 [am_i ((iI a)), am_i ((iI b))] h (iI (if a < b then b else a)) h := by
  refine am_M.ofi (A := [some (am_i ((iI a))), some (am_i ((iI b)))]) (by decide +kernel) rfl (ble rfl) (fun Q hQ => ?_)
  refine rl_i0 dJ9_max_7cf53_0 ?_
  refine rl_i1 dJ9_max_7cf53_1 ?_
  refine ar_ic_lt 9 dJ9_max_7cf53_2 (by decide) (fun c1 => ?_) (fun c1 => ?_)
  · rw [iI_lt ha.1 ha.2 hb.1 hb.2] at c1
    rw [if_pos c1] at hQ
    refine rl_i1 dJ9_max_7cf53_9 ?_
    exact ar_iret dJ9_max_7cf53_10 rfl rfl (hQ)
  · rw [iI_lt ha.1 ha.2 hb.1 hb.2] at c1
    rw [if_neg c1] at hQ
    refine rl_i0 dJ9_max_7cf53_5 ?_
    refine ar_goto 10 dJ9_max_7cf53_6 (by decide) ?_
    exact ar_iret dJ9_max_7cf53_10 rfl rfl (hQ)
theorem k_tenths (h : am_H) {k : Nat} (hk : k < 10) {v : pv_T} (hv : pv_ok v) (R : cl_cu h k v) {i : Nat} (hi : i < v.1 0) : am_Mi yX0_tenths cX0_tenths 2 (some .int) 0 0 [am_r (.inr k) 1, am_i ((iI i))] h (iI (10 * v.2 2 i)) h := by
  have h8 := hv.1.1
  refine am_M.ofi (A := [some (am_r (.inr k) 1), some (am_i ((iI i)))]) (by decide +kernel) rfl (ble rfl) (fun Q hQ => ?_)
  refine ar_bipush (iI (10)) dX0_tenths_0 rfl ?_
  refine rl_a0 dX0_tenths_2 ?_
  refine rg_R (.inr k) 3 dX0_tenths_3 fg_X0_15 rfl rfl rfl (ok_P hk rfl) ?_
  refine rl_i1 dX0_tenths_6 ?_
  refine ar_iald dX0_tenths_7 rfl (ok_P hk rfl) (iI_in (by omega) (by omega) (by decide)) ?_
  refine ar_imul dX0_tenths_8 ?_
  rw [iI_cl (by omega), (R.2 i hi).2.1, iI_m]
  exact ar_iret dX0_tenths_9 rfl rfl (hQ)
theorem k_turnAhead (h : am_H) {k : Nat} (hk : k < 10) {v : pv_T} (hv : pv_ok v) (R : cl_cu h k v) {n : Nat} (hn : n ≤ v.1 0) : am_Mi yX0_turnAhead cX0_turnAhead 4 (some .int) 0 0 [am_r (.inr k) 1, am_i ((iI n))] h (iI (pv_tA v n)) h := by
  have h8 := hv.1.1
  refine am_M.ofi (A := [some (am_r (.inr k) 1), some (am_i ((iI n))), none, none]) (by decide +kernel) rfl (ble rfl) (fun Q hQ => ?_)
  refine ar_iconst (iI (0)) dX0_turnAhead_0 rfl ?_
  refine rs_i2 dX0_turnAhead_1 rfl trivial ?_
  refine ar_iconst (iI (0)) dX0_turnAhead_2 rfl ?_
  refine rs_i3 dX0_turnAhead_3 rfl trivial ?_
  have key : ∀ (d i : Nat), n - i = d → i ≤ n → (am_V RX0 cX0_turnAhead 4 (some .int) 0 0 0 0 none (am_Tm cX0_turnAhead (some .int) Q) 0 0 4 [some (am_r (.inr k) 1), some (am_i (iI n)), some (am_i (iI (pv_tA v i))), some (am_i (iI i))] [] h) := by
    intro d
    induction d with
    | zero =>
      intro i hd hi
      have e : i = n := by omega
      subst e
      refine rl_i3 dX0_turnAhead_4 ?_
      refine rl_i1 dX0_turnAhead_5 ?_
      refine ar_ic_ge 27 dX0_turnAhead_6 (by decide) (fun c1 => ?_) (fun c1 => ?_)
      · refine rl_i2 dX0_turnAhead_27 ?_
        exact ar_iret dX0_turnAhead_28 rfl rfl (hQ)
      · exact absurd (Int32.le_refl _) c1
    | succ d ih =>
      intro i hd hi
      refine rl_i3 dX0_turnAhead_4 ?_
      refine rl_i1 dX0_turnAhead_5 ?_
      refine ar_ic_ge 27 dX0_turnAhead_6 (by decide) (fun c1 => ?_) (fun c1 => ?_)
      · rw [iI_le (by omega) (by omega) (by omega) (by omega)] at c1
        omega
      · refine rl_i2 dX0_turnAhead_9 ?_
        refine ar_bipush (iI (10)) dX0_turnAhead_10 rfl ?_
        refine rl_a0 dX0_turnAhead_12 ?_
        refine rg_R (.inr k) 3 dX0_turnAhead_13 fg_X0_15 rfl rfl rfl (ok_P hk rfl) ?_
        refine rl_i3 dX0_turnAhead_16 ?_
        refine ar_iald dX0_turnAhead_17 rfl (ok_P hk rfl) (iI_in (by omega) (by omega) (by decide)) ?_
        refine ar_imul dX0_turnAhead_18 ?_
        refine ar_iadd dX0_turnAhead_19 ?_
        refine rs_i2 dX0_turnAhead_20 rfl trivial ?_
        refine rn_1_3 dX0_turnAhead_21 rfl trivial ?_
        refine ar_goto 4 dX0_turnAhead_24 (by decide) ?_
        rw [iI_cl (by omega), (R.2 i (by omega)).2.1, iI_m, iI_a, iI_1]
        exact ih (i + 1) (by omega) (by omega)
  exact key n 0 (by omega) (by omega)

