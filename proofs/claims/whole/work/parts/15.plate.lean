theorem pv_pT_b {v : pv_T} (hv : pv_ok v) (t : Int) {n : Nat} (h : n ≤ v.1 0) : 0 ≤ pv_pT v t n ∧ pv_pT v t n ≤ 2865600 := by
  have h1 := sI_b (f := fun i => v.2 1 i * pv_ps v t i) (n := n) (lo := 0) (hi := 358200) (fun i hi => by
    have q := hv.2.1 i (by omega)
    have q2 := pv_ps_b (v := v) (t := t) (i := i) (by omega)
    refine ⟨Int.mul_nonneg (by omega) (by omega), ?_⟩
    have a1 : v.2 1 i * pv_ps v t i ≤ 199 * pv_ps v t i := Int.mul_le_mul_of_nonneg_right (by omega) (by omega)
    show v.2 1 i * pv_ps v t i ≤ 358200
    omega)
  have h2 := hv.1.1
  unfold pv_pT
  omega
/-- the width of a letter; half its parts; its centre's turn and parts; its edges; the rooms -/
def pv_w (v : pv_T) (j : Nat) : Int := v.2 8 (v.2 5 j).toNat
def pv_ct (v : pv_T) (j : Nat) : Int := (2 * (j : Int) + 1) * pv_wT v / (2 * (v.1 1 : Int))
def pv_ce (v : pv_T) (j : Nat) : Int := pv_pT v (pv_ct v j) (v.1 0)
def pv_lE (v : pv_T) (j : Nat) : Int := pv_ce v j - 500 * pv_w v j
def pv_rE (v : pv_T) (j : Nat) : Int := pv_ce v j + 500 * pv_w v j
def pv_ro (v : pv_T) (i : Nat) : Int := (if i = v.1 1 then pv_wP v else pv_lE v i) - (if i = 0 then 0 else pv_rE v (i - 1))
theorem pv_w_b {v : pv_T} (hv : pv_ok v) {j : Nat} (h : j < v.1 1) : 1 ≤ pv_w v j ∧ pv_w v j ≤ 99 := by
  have h1 := hv.2.2.1 j h
  exact hv.2.2.2.1 (v.2 5 j).toNat (by omega)
theorem pv_ct_b {v : pv_T} (hv : pv_ok v) {j : Nat} (h : j < v.1 1) : 0 ≤ pv_ct v j ∧ pv_ct v j ≤ pv_wT v ∧ 0 ≤ (2 * (j : Int) + 1) * pv_wT v ∧ (2 * (j : Int) + 1) * pv_wT v ≤ 1000000 := by
  have h1 := pv_tA_b hv (Nat.le_refl (v.1 0))
  have h2 := hv.1.2.1
  have a1 : 0 ≤ (2 * (j : Int) + 1) * pv_wT v := Int.mul_nonneg (by omega) h1.1
  have a2 : (2 * (j : Int) + 1) * pv_wT v ≤ (2 * (v.1 1 : Int)) * pv_wT v := Int.mul_le_mul_of_nonneg_right (by omega) h1.1
  have a3 : (2 * (v.1 1 : Int)) * pv_wT v ≤ 40 * pv_wT v := Int.mul_le_mul_of_nonneg_right (by omega) h1.1
  have h3 : pv_wT v ≤ 14400 := h1.2
  refine ⟨Int.ediv_nonneg a1 (by omega), ?_, a1, by omega⟩
  have a4 : (2 * (j : Int) + 1) * pv_wT v / (2 * (v.1 1 : Int)) ≤ (2 * (v.1 1 : Int)) * pv_wT v / (2 * (v.1 1 : Int)) := Int.ediv_le_ediv (by omega) a2
  rw [Int.mul_ediv_cancel_left _ (by omega)] at a4
  exact a4
theorem pv_ce_b {v : pv_T} (hv : pv_ok v) (j : Nat) : 0 ≤ pv_ce v j ∧ pv_ce v j ≤ 2865600 := pv_pT_b hv _ (Nat.le_refl _)
theorem pv_ro_b {v : pv_T} (hv : pv_ok v) {i : Nat} (h : i ≤ v.1 1) : -3000000 ≤ pv_ro v i ∧ pv_ro v i ≤ 3000000 := by
  have h1 := pv_pA_b hv (Nat.le_refl (v.1 0))
  have h1 : 0 ≤ pv_wP v ∧ pv_wP v ≤ 2865600 := h1
  unfold pv_ro pv_lE pv_rE
  have h2 := pv_ce_b hv i
  have h3 := pv_ce_b hv (i - 1)
  by_cases e : i = v.1 1
  · rw [if_pos e]
    by_cases e0 : i = 0
    · rw [if_pos e0]; omega
    · rw [if_neg e0]
      have h4 := pv_w_b hv (j := i - 1) (by omega)
      omega
  · rw [if_neg e]
    have h5 := pv_w_b hv (j := i) (by omega)
    by_cases e0 : i = 0
    · rw [if_pos e0]; omega
    · rw [if_neg e0]
      have h4 := pv_w_b hv (j := i - 1) (by omega)
      omega
theorem k_partsOf (h : am_H) {k : Nat} (hk : k < 10) {v : pv_T} (hv : pv_ok v) (R : cl_na h k v) {j : Nat} (hj : j < v.1 1) : am_Mi yX4_partsOf cX4_partsOf 2 (some .int) 0 0 [am_r (.inr k) 6, am_i ((iI j))] h (iI (1000 * pv_w v j)) h := by
  have h8 := hv.1.2.1
  have hp := hv.2.2.1 j hj
  have e1 : h.1 (.inr k) 7 (iI (j : Int)).toNatClampNeg = iI (v.2 5 j) := by rw [iI_cl (by omega)]; exact (R.2.1 j hj).1
  have e2 : h.1 (.inr k) 10 (iI (v.2 5 j)).toNatClampNeg = iI (pv_w v j) := by rw [iI_clz (by omega) (by omega)]; exact R.2.2 _ (by omega)
  refine am_M.ofi (A := [some (am_r (.inr k) 6), some (am_i ((iI j)))]) (by decide +kernel) rfl (ble rfl) (fun Q hQ => ?_)
  refine ar_sipush (iI (1000)) dX4_partsOf_0 rfl ?_
  refine rl_a0 dX4_partsOf_3 ?_
  refine rg_R (.inr k) 10 dX4_partsOf_4 fg_X4_22 rfl rfl rfl (ok_P hk rfl) ?_
  refine rl_a0 dX4_partsOf_7 ?_
  refine rg_R (.inr k) 7 dX4_partsOf_8 fg_X4_9 rfl rfl rfl (ok_P hk rfl) ?_
  refine rl_i1 dX4_partsOf_11 ?_
  refine ar_iald dX4_partsOf_12 rfl (ok_P hk rfl) (iI_in (by omega) (by omega) (by decide)) ?_
  refine ar_iald dX4_partsOf_13 rfl (ok_P hk rfl) (by rw [e1]; exact iI_in (by omega) (by omega) (by decide)) ?_
  refine ar_imul dX4_partsOf_14 ?_
  rw [e1, e2, iI_m]
  exact ar_iret dX4_partsOf_15 rfl rfl (hQ)
def pv_pS (v : pv_T) (n : Nat) : Int := sI (fun j => 1000 * pv_w v j) n
theorem k_partsOfAll (h : am_H) {k : Nat} (hk : k < 10) {v : pv_T} (hv : pv_ok v) (R : cl_na h k v) : am_Mi yX4_partsOfAll cX4_partsOfAll 3 (some .int) 1 21 [am_r (.inr k) 6] h (iI (pv_pS v (v.1 1))) h := by
  have h8 := hv.1.2.1
  refine am_M.ofi (A := [some (am_r (.inr k) 6), none, none]) (by decide +kernel) rfl (ble rfl) (fun Q hQ => ?_)
  refine ar_iconst (iI (0)) dX4_partsOfAll_0 rfl ?_
  refine rs_i1 dX4_partsOfAll_1 rfl trivial ?_
  refine ar_iconst (iI (0)) dX4_partsOfAll_2 rfl ?_
  refine rs_i2 dX4_partsOfAll_3 rfl trivial ?_
  have key : ∀ (d i : Nat), v.1 1 - i = d → i ≤ v.1 1 → (am_V RX4 cX4_partsOfAll 3 (some .int) 1 21 0 0 none (am_Tm cX4_partsOfAll (some .int) Q) 0 0 4 [some (am_r (.inr k) 6), some (am_i (iI (pv_pS v i))), some (am_i (iI i))] [] h) := by
    intro d
    induction d with
    | zero =>
      intro i hd hi
      have e : i = v.1 1 := by omega
      refine rl_i2 dX4_partsOfAll_4 ?_
      refine rl_a0 dX4_partsOfAll_5 ?_
      refine ar_getI dX4_partsOfAll_6 fg_X4_28 rfl rfl (ok_P hk rfl) ?_
      refine ar_ic_ge 26 dX4_partsOfAll_9 (by decide) (fun c1 => ?_) (fun c1 => ?_)
      · refine rl_i1 dX4_partsOfAll_26 ?_
        rw [e]
        exact ar_iret dX4_partsOfAll_27 rfl rfl (hQ)
      · rw [R.1, iI_le (by omega) (by omega) (by omega) (by omega)] at c1
        omega
    | succ d ih =>
      intro i hd hi
      refine rl_i2 dX4_partsOfAll_4 ?_
      refine rl_a0 dX4_partsOfAll_5 ?_
      refine ar_getI dX4_partsOfAll_6 fg_X4_28 rfl rfl (ok_P hk rfl) ?_
      refine ar_ic_ge 26 dX4_partsOfAll_9 (by decide) (fun c1 => ?_) (fun c1 => ?_)
      · rw [R.1, iI_le (by omega) (by omega) (by omega) (by omega)] at c1
        omega
      · refine rl_i1 dX4_partsOfAll_12 ?_
        refine rl_a0 dX4_partsOfAll_13 ?_
        refine rl_i2 dX4_partsOfAll_14 ?_
        refine rc_V1i dX4_partsOfAll_15 ml_X4_42 mc_X4_partsOf (k_partsOf h hk hv R (j := i) (by omega)) rfl rfl rfl (ok_P hk rfl) rfl rfl rfl ?_
        refine ar_iadd dX4_partsOfAll_18 ?_
        refine rs_i1 dX4_partsOfAll_19 rfl trivial ?_
        refine rn_1_2 dX4_partsOfAll_20 rfl trivial ?_
        refine ar_goto 4 dX4_partsOfAll_23 (by decide) ?_
        rw [iI_a, iI_1]
        exact ih (i + 1) (by omega) (by omega)
  exact key (v.1 1) 0 (by omega) (by omega)
theorem k_strokesOf (h : am_H) {k : Nat} (hk : k < 10) {v : pv_T} (hv : pv_ok v) (R : cl_na h k v) {j : Nat} (hj : j < v.1 1) : am_Mi yX4_strokesOf cX4_strokesOf 2 (some .int) 0 0 [am_r (.inr k) 6, am_i ((iI j))] h (iI (1 + v.2 5 j % 4)) h := by
  have h8 := hv.1.2.1
  have hp := hv.2.2.1 j hj
  have e1 : h.1 (.inr k) 7 (iI (j : Int)).toNatClampNeg = iI (v.2 5 j) := by rw [iI_cl (by omega)]; exact (R.2.1 j hj).1
  refine am_M.ofi (A := [some (am_r (.inr k) 6), some (am_i ((iI j)))]) (by decide +kernel) rfl (ble rfl) (fun Q hQ => ?_)
  refine ar_iconst (iI (1)) dX4_strokesOf_0 rfl ?_
  refine rl_a0 dX4_strokesOf_1 ?_
  refine rg_R (.inr k) 7 dX4_strokesOf_2 fg_X4_9 rfl rfl rfl (ok_P hk rfl) ?_
  refine rl_i1 dX4_strokesOf_5 ?_
  refine ar_iald dX4_strokesOf_6 rfl (ok_P hk rfl) (iI_in (by omega) (by omega) (by decide)) ?_
  refine ar_iconst (iI (4)) dX4_strokesOf_7 rfl ?_
  refine ar_irem dX4_strokesOf_8 (by decide) ?_
  refine ar_iadd dX4_strokesOf_9 ?_
  rw [e1, iI_rn (by omega) (by omega) (by omega) (by omega), iI_a]
  exact ar_iret dX4_strokesOf_10 rfl rfl (hQ)
/-- how many of the first n letters are engraved -/
def pv_eN (v : pv_T) (n : Nat) : Int := sI (fun j => if v.2 6 j = 0 then 0 else 1) n
theorem k_engravedLetters (h : am_H) {k : Nat} (hk : k < 10) {v : pv_T} (hv : pv_ok v) (R : cl_na h k v) : am_Mi yX4_engravedLetters cX4_engravedLetters 3 (some .int) 0 0 [am_r (.inr k) 6] h (iI (pv_eN v (v.1 1))) h := by
  have h8 := hv.1.2.1
  refine am_M.ofi (A := [some (am_r (.inr k) 6), none, none]) (by decide +kernel) rfl (ble rfl) (fun Q hQ => ?_)
  refine ar_iconst (iI (0)) dX4_engravedLetters_0 rfl ?_
  refine rs_i1 dX4_engravedLetters_1 rfl trivial ?_
  refine ar_iconst (iI (0)) dX4_engravedLetters_2 rfl ?_
  refine rs_i2 dX4_engravedLetters_3 rfl trivial ?_
  have key : ∀ (d i : Nat), v.1 1 - i = d → i ≤ v.1 1 → (am_V RX4 cX4_engravedLetters 3 (some .int) 0 0 0 0 none (am_Tm cX4_engravedLetters (some .int) Q) 0 0 4 [some (am_r (.inr k) 6), some (am_i (iI (pv_eN v i))), some (am_i (iI i))] [] h) := by
    intro d
    induction d with
    | zero =>
      intro i hd hi
      have e : i = v.1 1 := by omega
      refine rl_i2 dX4_engravedLetters_4 ?_
      refine rl_a0 dX4_engravedLetters_5 ?_
      refine ar_getI dX4_engravedLetters_6 fg_X4_28 rfl rfl (ok_P hk rfl) ?_
      refine ar_ic_ge 30 dX4_engravedLetters_9 (by decide) (fun c1 => ?_) (fun c1 => ?_)
      · refine rl_i1 dX4_engravedLetters_30 ?_
        rw [e]
        exact ar_iret dX4_engravedLetters_31 rfl rfl (hQ)
      · rw [R.1, iI_le (by omega) (by omega) (by omega) (by omega)] at c1
        omega
    | succ d ih =>
      intro i hd hi
      have hp := hv.2.2.1 i (by omega)
      have e1 : h.1 (.inr k) 8 (iI (i : Int)).toNatClampNeg = iI (v.2 6 i) := by rw [iI_cl (by omega)]; exact (R.2.1 i (by omega)).2.1
      refine rl_i2 dX4_engravedLetters_4 ?_
      refine rl_a0 dX4_engravedLetters_5 ?_
      refine ar_getI dX4_engravedLetters_6 fg_X4_28 rfl rfl (ok_P hk rfl) ?_
      refine ar_ic_ge 30 dX4_engravedLetters_9 (by decide) (fun c1 => ?_) (fun c1 => ?_)
      · rw [R.1, iI_le (by omega) (by omega) (by omega) (by omega)] at c1
        omega
      · refine rl_a0 dX4_engravedLetters_12 ?_
        refine rg_R (.inr k) 8 dX4_engravedLetters_13 fg_X4_15 rfl rfl rfl (ok_P hk rfl) ?_
        refine rl_i2 dX4_engravedLetters_16 ?_
        refine ar_zald dX4_engravedLetters_17 rfl (ok_P hk rfl) (iI_in (by omega) (by omega) (by decide)) ?_
        refine ar_if_eq 24 dX4_engravedLetters_18 (by decide) (fun c2 => ?_) (fun c2 => ?_)
        · rw [e1] at c2
          have c2 := (iI_eq (by omega) (by omega) (by decide) (by decide)).mp (show iI (v.2 6 i) = iI 0 from c2)
          refine rn_1_2 dX4_engravedLetters_24 rfl trivial ?_
          refine ar_goto 4 dX4_engravedLetters_27 (by decide) ?_
          rw [iI_1]
          have := ih (i + 1) (by omega) (by omega)
          rw [show pv_eN v (i + 1) = pv_eN v i by show pv_eN v i + (if v.2 6 i = 0 then 0 else 1) = _; rw [if_pos c2]; omega] at this
          exact this
        · rw [e1] at c2
          have c2 : ¬ v.2 6 i = 0 := fun z => c2 (by rw [z]; rfl)
          refine rn_1_1 dX4_engravedLetters_21 rfl trivial ?_
          refine rn_1_2 dX4_engravedLetters_24 rfl trivial ?_
          refine ar_goto 4 dX4_engravedLetters_27 (by decide) ?_
          rw [iI_1, iI_1]
          have := ih (i + 1) (by omega) (by omega)
          rw [show pv_eN v (i + 1) = pv_eN v i + 1 by show pv_eN v i + (if v.2 6 i = 0 then 0 else 1) = _; rw [if_neg c2]] at this
          exact this
  exact key (v.1 1) 0 (by omega) (by omega)
theorem k_hasArc (h : am_H) {k : Nat} (hk : k < 10) {v : pv_T} (hv : pv_ok v) (R : cl_cu h k v) {z : Int} (hz : -2147483648 ≤ z ∧ z < 2147483648) : am_Mi yX5_hasArc cX5_hasArc 2 (some .boolean) 1 22 [am_r (.inr k) 0, am_i ((iI z))] h (iI (if 0 ≤ z ∧ z ≤ (v.1 0 : Int) - 1 then 1 else 0)) h := by
  have h8 := hv.1
  refine am_M.ofi (A := [some (am_r (.inr k) 0), some (am_i ((iI z)))]) (by decide +kernel) rfl (ble rfl) (fun Q hQ => ?_)
  refine rl_i1 dX5_hasArc_0 ?_
  refine ar_iconst (iI (0)) dX5_hasArc_1 rfl ?_
  refine rl_a0 dX5_hasArc_2 ?_
  refine rg_R (.inr k) 1 dX5_hasArc_3 fg_X5_12 rfl rfl rfl (ok_P hk rfl) ?_
  refine ar_getI dX5_hasArc_6 fg_X5_50 rfl rfl (ok_P hk rfl) ?_
  refine ar_iconst (iI (1)) dX5_hasArc_9 rfl ?_
  refine ar_isub dX5_hasArc_10 ?_
  rw [R.1, iI_s]
  refine rc_N3i dX5_hasArc_11 ml_X5_77 mc_X11_isWithin (k_isWithin h z 0 ((v.1 0 : Int) - 1) hz (by omega) (by omega)) rfl rfl rfl ?_
  exact ar_iret dX5_hasArc_14 rfl (by split <;> rfl) (hQ)
theorem k_hasLetter (h : am_H) {k : Nat} (hk : k < 10) {v : pv_T} (hv : pv_ok v) (R : cl_na h k v) {z : Int} (hz : -2147483648 ≤ z ∧ z < 2147483648) : am_Mi yX5_hasLetter cX5_hasLetter 2 (some .boolean) 1 22 [am_r (.inr k) 0, am_i ((iI z))] h (iI (if 0 ≤ z ∧ z ≤ (v.1 1 : Int) - 1 then 1 else 0)) h := by
  have h8 := hv.1
  refine am_M.ofi (A := [some (am_r (.inr k) 0), some (am_i ((iI z)))]) (by decide +kernel) rfl (ble rfl) (fun Q hQ => ?_)
  refine rl_i1 dX5_hasLetter_0 ?_
  refine ar_iconst (iI (0)) dX5_hasLetter_1 rfl ?_
  refine rl_a0 dX5_hasLetter_2 ?_
  refine rg_R (.inr k) 6 dX5_hasLetter_3 fg_X5_21 rfl rfl rfl (ok_P hk rfl) ?_
  refine ar_getI dX5_hasLetter_6 fg_X5_81 rfl rfl (ok_P hk rfl) ?_
  refine ar_iconst (iI (1)) dX5_hasLetter_9 rfl ?_
  refine ar_isub dX5_hasLetter_10 ?_
  rw [R.1, iI_s]
  refine rc_N3i dX5_hasLetter_11 ml_X5_77 mc_X11_isWithin (k_isWithin h z 0 ((v.1 1 : Int) - 1) hz (by omega) (by omega)) rfl rfl rfl ?_
  exact ar_iret dX5_hasLetter_14 rfl (by split <;> rfl) (hQ)
theorem k_hasRoom (h : am_H) {k : Nat} (hk : k < 10) {v : pv_T} (hv : pv_ok v) (R : cl_na h k v) {z : Int} (hz : -2147483648 ≤ z ∧ z < 2147483648) : am_Mi yX5_hasRoom cX5_hasRoom 2 (some .boolean) 1 22 [am_r (.inr k) 0, am_i ((iI z))] h (iI (if 0 ≤ z ∧ z ≤ (v.1 1 : Int) then 1 else 0)) h := by
  have h8 := hv.1
  refine am_M.ofi (A := [some (am_r (.inr k) 0), some (am_i ((iI z)))]) (by decide +kernel) rfl (ble rfl) (fun Q hQ => ?_)
  refine rl_i1 dX5_hasRoom_0 ?_
  refine ar_iconst (iI (0)) dX5_hasRoom_1 rfl ?_
  refine rl_a0 dX5_hasRoom_2 ?_
  refine rg_R (.inr k) 6 dX5_hasRoom_3 fg_X5_21 rfl rfl rfl (ok_P hk rfl) ?_
  refine ar_getI dX5_hasRoom_6 fg_X5_81 rfl rfl (ok_P hk rfl) ?_
  rw [R.1]
  refine rc_N3i dX5_hasRoom_9 ml_X5_77 mc_X11_isWithin (k_isWithin h z 0 (v.1 1 : Int) hz (by omega) (by omega)) rfl rfl rfl ?_
  exact ar_iret dX5_hasRoom_12 rfl (by split <;> rfl) (hQ)
theorem k_hasKind (h : am_H) {k : Nat} (hk : k < 10) {v : pv_T} (hv : pv_ok v) (R : cl_ki h k v) {z : Int} (hz : -2147483648 ≤ z ∧ z < 2147483648) : am_Mi yX5_hasKind cX5_hasKind 2 (some .boolean) 1 22 [am_r (.inr k) 0, am_i ((iI z))] h (iI (if 0 ≤ z ∧ z ≤ (v.1 2 : Int) - 1 then 1 else 0)) h := by
  have h8 := hv.1
  refine am_M.ofi (A := [some (am_r (.inr k) 0), some (am_i ((iI z)))]) (by decide +kernel) rfl (ble rfl) (fun Q hQ => ?_)
  refine rl_i1 dX5_hasKind_0 ?_
  refine ar_iconst (iI (0)) dX5_hasKind_1 rfl ?_
  refine rl_a0 dX5_hasKind_2 ?_
  refine rg_R (.inr k) 11 dX5_hasKind_3 fg_X5_28 rfl rfl rfl (ok_P hk rfl) ?_
  refine ar_getI dX5_hasKind_6 fg_X5_56 rfl rfl (ok_P hk rfl) ?_
  refine ar_iconst (iI (1)) dX5_hasKind_9 rfl ?_
  refine ar_isub dX5_hasKind_10 ?_
  rw [R.1, iI_s]
  refine rc_N3i dX5_hasKind_11 ml_X5_77 mc_X11_isWithin (k_isWithin h z 0 ((v.1 2 : Int) - 1) hz (by omega) (by omega)) rfl rfl rfl ?_
  exact ar_iret dX5_hasKind_14 rfl (by split <;> rfl) (hQ)
theorem k_hasScratch (h : am_H) {k : Nat} (hk : k < 10) {v : pv_T} (hv : pv_ok v) (R : cl_sc h k v) {z : Int} (hz : -2147483648 ≤ z ∧ z < 2147483648) : am_Mi yX5_hasScratch cX5_hasScratch 2 (some .boolean) 1 22 [am_r (.inr k) 0, am_i ((iI z))] h (iI (if 0 ≤ z ∧ z ≤ (v.1 3 : Int) - 1 then 1 else 0)) h := by
  have h8 := hv.1
  refine am_M.ofi (A := [some (am_r (.inr k) 0), some (am_i ((iI z)))]) (by decide +kernel) rfl (ble rfl) (fun Q hQ => ?_)
  refine rl_i1 dX5_hasScratch_0 ?_
  refine ar_iconst (iI (0)) dX5_hasScratch_1 rfl ?_
  refine rl_a0 dX5_hasScratch_2 ?_
  refine rg_R (.inr k) 17 dX5_hasScratch_3 fg_X5_42 rfl rfl rfl (ok_P hk rfl) ?_
  refine ar_getI dX5_hasScratch_6 fg_X5_60 rfl rfl (ok_P hk rfl) ?_
  refine ar_iconst (iI (1)) dX5_hasScratch_9 rfl ?_
  refine ar_isub dX5_hasScratch_10 ?_
  rw [R.1, iI_s]
  refine rc_N3i dX5_hasScratch_11 ml_X5_77 mc_X11_isWithin (k_isWithin h z 0 ((v.1 3 : Int) - 1) hz (by omega) (by omega)) rfl rfl rfl ?_
  exact ar_iret dX5_hasScratch_14 rfl (by split <;> rfl) (hQ)
theorem k_canHaveMargin (h : am_H) {z : Int} (hz : -2147483648 ≤ z ∧ z < 2147483648) : am_Mi yX5_canHaveMargin cX5_canHaveMargin 1 (some .boolean) 1 22 [am_i ((iI z))] h (iI (if 0 ≤ z ∧ z ≤ 99 then 1 else 0)) h := by
  refine am_M.ofi (A := [some (am_i ((iI z)))]) (by decide +kernel) rfl (ble rfl) (fun Q hQ => ?_)
  refine rl_i0 dX5_canHaveMargin_0 ?_
  refine ar_iconst (iI (0)) dX5_canHaveMargin_1 rfl ?_
  refine ar_bipush (iI (99)) dX5_canHaveMargin_2 rfl ?_
  refine rc_N3i dX5_canHaveMargin_4 ml_X5_77 mc_X11_isWithin (k_isWithin h z 0 99 hz (by omega) (by omega)) rfl rfl rfl ?_
  exact ar_iret dX5_canHaveMargin_7 rfl (by split <;> rfl) (hQ)
theorem k_canSharpenBy (h : am_H) {z : Int} (hz : -2147483648 ≤ z ∧ z < 2147483648) : am_Mi yX1_canSharpenBy cX1_canSharpenBy 1 (some .boolean) 1 22 [am_i ((iI z))] h (iI (if 1 ≤ z ∧ z ≤ 99 then 1 else 0)) h := by
  refine am_M.ofi (A := [some (am_i ((iI z)))]) (by decide +kernel) rfl (ble rfl) (fun Q hQ => ?_)
  refine rl_i0 dX1_canSharpenBy_0 ?_
  refine ar_iconst (iI (1)) dX1_canSharpenBy_1 rfl ?_
  refine ar_bipush (iI (99)) dX1_canSharpenBy_2 rfl ?_
  refine rc_N3i dX1_canSharpenBy_4 ml_X1_24 mc_X11_isWithin (k_isWithin h z 1 99 hz (by omega) (by omega)) rfl rfl rfl ?_
  exact ar_iret dX1_canSharpenBy_7 rfl (by split <;> rfl) (hQ)
theorem k_isPlace (h : am_H) {z : Int} (hz : -2147483648 ≤ z ∧ z < 2147483648) : am_Mi yX11_isPlace cX11_isPlace 1 (some .boolean) 1 22 [am_i ((iI z))] h (iI (if 0 ≤ z ∧ z ≤ 25 then 1 else 0)) h := by
  refine am_M.ofi (A := [some (am_i ((iI z)))]) (by decide +kernel) rfl (ble rfl) (fun Q hQ => ?_)
  refine rl_i0 dX11_isPlace_0 ?_
  refine ar_iconst (iI (0)) dX11_isPlace_1 rfl ?_
  refine ar_bipush (iI (25)) dX11_isPlace_2 rfl ?_
  refine rc_S3i dX11_isPlace_4 ml_X11_86 mc_X11_isWithin (k_isWithin h z 0 25 hz (by omega) (by omega)) rfl rfl rfl ?_
  exact ar_iret dX11_isPlace_7 rfl (by split <;> rfl) (hQ)
theorem k_centreTurn (h : am_H) {k : Nat} (hk : k < 10) {v : pv_T} (hv : pv_ok v) (R : cl_cu h k v) (R2 : cl_na h k v) {j : Nat} (hj : j < v.1 1) : am_Mi yX5_centreTurn cX5_centreTurn 3 (some .int) 1 23 [am_r (.inr k) 0, am_i ((iI j))] h (iI (pv_ct v j)) h := by
  have h8 := hv.1
  have hb := pv_ct_b hv hj
  refine am_M.ofi (A := [some (am_r (.inr k) 0), some (am_i ((iI j))), none]) (by decide +kernel) rfl (ble rfl) (fun Q hQ => ?_)
  refine rl_a0 dX5_centreTurn_0 ?_
  refine rg_R (.inr k) 6 dX5_centreTurn_1 fg_X5_21 rfl rfl rfl (ok_P hk rfl) ?_
  refine ar_getI dX5_centreTurn_4 fg_X5_81 rfl rfl (ok_P hk rfl) ?_
  refine rs_i2 dX5_centreTurn_7 rfl trivial ?_
  refine rl_i2 dX5_centreTurn_8 ?_
  refine ar_if_le 39 dX5_centreTurn_9 (by decide) (fun c1 => ?_) (fun c1 => ?_)
  · rw [R2.1] at c1
    have c1 := (iI_le (by omega) (by omega) (by decide) (by decide)).mp (show iI (v.1 1) ≤ iI 0 from c1)
    omega
  · rw [R2.1]
    refine ar_iconst (iI (2)) dX5_centreTurn_12 rfl ?_
    refine rl_i1 dX5_centreTurn_13 ?_
    refine ar_imul dX5_centreTurn_14 ?_
    refine ar_iconst (iI (1)) dX5_centreTurn_15 rfl ?_
    refine ar_iadd dX5_centreTurn_16 ?_
    refine rl_a0 dX5_centreTurn_17 ?_
    refine rg_R (.inr k) 1 dX5_centreTurn_18 fg_X5_12 rfl rfl rfl (ok_P hk rfl) ?_
    refine rl_a0 dX5_centreTurn_21 ?_
    refine rg_R (.inr k) 1 dX5_centreTurn_22 fg_X5_12 rfl rfl rfl (ok_P hk rfl) ?_
    refine ar_getI dX5_centreTurn_25 fg_X5_50 rfl rfl (ok_P hk rfl) ?_
    rw [R.1]
    refine rc_V1i dX5_centreTurn_28 ml_X5_84 mc_X0_turnAhead (k_turnAhead h hk hv R (Nat.le_refl _)) rfl rfl rfl (ok_P hk rfl) rfl rfl rfl ?_
    rw [iI_m, iI_a]
    have e0 : pv_tA v (v.1 0) = pv_wT v := rfl
    refine ar_imul dX5_centreTurn_31 ?_
    refine ar_iconst (iI (2)) dX5_centreTurn_32 rfl ?_
    refine rl_i2 dX5_centreTurn_33 ?_
    refine ar_imul dX5_centreTurn_34 ?_
    refine ar_idiv dX5_centreTurn_35 (by rw [iI_m]; exact iI_ne0 (by omega) (by omega) (by omega)) ?_
    refine ar_goto 40 dX5_centreTurn_36 (by decide) ?_
    rw [iI_m, iI_m, e0, iI_dn hb.2.2.1 (by omega) (by omega) (by omega)]
    exact ar_iret dX5_centreTurn_40 rfl rfl (hQ)
theorem k_centreParts (h : am_H) {k : Nat} (hk : k < 10) {v : pv_T} (hv : pv_ok v) (R : cl_cu h k v) (R2 : cl_na h k v) {j : Nat} (hj : j < v.1 1) : am_Mi yX5_centreParts cX5_centreParts 2 (some .int) 2 46 [am_r (.inr k) 0, am_i ((iI j))] h (iI (pv_ce v j)) h := by
  have hb := pv_ct_b hv hj
  have hc := pv_tA_b hv (Nat.le_refl (v.1 0))
  have hd : pv_wT v ≤ 14400 := hc.2
  refine am_M.ofi (A := [some (am_r (.inr k) 0), some (am_i ((iI j)))]) (by decide +kernel) rfl (ble rfl) (fun Q hQ => ?_)
  refine rl_a0 dX5_centreParts_0 ?_
  refine rg_R (.inr k) 1 dX5_centreParts_1 fg_X5_12 rfl rfl rfl (ok_P hk rfl) ?_
  refine rl_a0 dX5_centreParts_4 ?_
  refine rl_i1 dX5_centreParts_5 ?_
  refine rc_V1i dX5_centreParts_6 ml_X5_88 mc_X5_centreTurn (k_centreTurn h hk hv R R2 hj) rfl rfl rfl (ok_P hk rfl) rfl rfl rfl ?_
  refine rc_V1i dX5_centreParts_9 ml_X5_91 mc_X0_partsTo (k_partsTo h hk hv R (t := pv_ct v j) (by omega)) rfl rfl rfl (ok_P hk rfl) rfl rfl rfl ?_
  exact ar_iret dX5_centreParts_12 rfl rfl (hQ)
theorem k_leftEdge (h : am_H) {k : Nat} (hk : k < 10) {v : pv_T} (hv : pv_ok v) (R : cl_cu h k v) (R2 : cl_na h k v) {j : Nat} (hj : j < v.1 1) : am_Mi yX5_leftEdge cX5_leftEdge 2 (some .int) 3 67 [am_r (.inr k) 0, am_i ((iI j))] h (iI (pv_lE v j)) h := by
  have hw := pv_w_b hv hj
  refine am_M.ofi (A := [some (am_r (.inr k) 0), some (am_i ((iI j)))]) (by decide +kernel) rfl (ble rfl) (fun Q hQ => ?_)
  refine rl_a0 dX5_leftEdge_0 ?_
  refine rl_i1 dX5_leftEdge_1 ?_
  refine rc_V1i dX5_leftEdge_2 ml_X5_94 mc_X5_centreParts (k_centreParts h hk hv R R2 hj) rfl rfl rfl (ok_P hk rfl) rfl rfl rfl ?_
  refine rl_a0 dX5_leftEdge_5 ?_
  refine rg_R (.inr k) 6 dX5_leftEdge_6 fg_X5_21 rfl rfl rfl (ok_P hk rfl) ?_
  refine rl_i1 dX5_leftEdge_9 ?_
  refine rc_V1i dX5_leftEdge_10 ml_X5_97 mc_X4_partsOf (k_partsOf h hk hv R2 hj) rfl rfl rfl (ok_P hk rfl) rfl rfl rfl ?_
  refine ar_iconst (iI (2)) dX5_leftEdge_13 rfl ?_
  refine ar_idiv dX5_leftEdge_14 (iI_ne0 (by omega) (by omega) (by omega)) ?_
  refine ar_isub dX5_leftEdge_15 ?_
  rw [iI_dn (by omega) (by omega) (by omega) (by omega), iI_s, show 1000 * pv_w v j / 2 = 500 * pv_w v j by omega]
  exact ar_iret dX5_leftEdge_16 rfl rfl (hQ)
theorem k_rightEdge (h : am_H) {k : Nat} (hk : k < 10) {v : pv_T} (hv : pv_ok v) (R : cl_cu h k v) (R2 : cl_na h k v) {j : Nat} (hj : j < v.1 1) : am_Mi yX5_rightEdge cX5_rightEdge 2 (some .int) 3 67 [am_r (.inr k) 0, am_i ((iI j))] h (iI (pv_rE v j)) h := by
  have hw := pv_w_b hv hj
  refine am_M.ofi (A := [some (am_r (.inr k) 0), some (am_i ((iI j)))]) (by decide +kernel) rfl (ble rfl) (fun Q hQ => ?_)
  refine rl_a0 dX5_rightEdge_0 ?_
  refine rl_i1 dX5_rightEdge_1 ?_
  refine rc_V1i dX5_rightEdge_2 ml_X5_94 mc_X5_centreParts (k_centreParts h hk hv R R2 hj) rfl rfl rfl (ok_P hk rfl) rfl rfl rfl ?_
  refine rl_a0 dX5_rightEdge_5 ?_
  refine rg_R (.inr k) 6 dX5_rightEdge_6 fg_X5_21 rfl rfl rfl (ok_P hk rfl) ?_
  refine rl_i1 dX5_rightEdge_9 ?_
  refine rc_V1i dX5_rightEdge_10 ml_X5_97 mc_X4_partsOf (k_partsOf h hk hv R2 hj) rfl rfl rfl (ok_P hk rfl) rfl rfl rfl ?_
  refine ar_iconst (iI (2)) dX5_rightEdge_13 rfl ?_
  refine ar_idiv dX5_rightEdge_14 (iI_ne0 (by omega) (by omega) (by omega)) ?_
  refine ar_iadd dX5_rightEdge_15 ?_
  rw [iI_dn (by omega) (by omega) (by omega) (by omega), iI_a, show 1000 * pv_w v j / 2 = 500 * pv_w v j by omega]
  exact ar_iret dX5_rightEdge_16 rfl rfl (hQ)
theorem k_arcUnder (h : am_H) {k : Nat} (hk : k < 10) {v : pv_T} (hv : pv_ok v) (R : cl_cu h k v) (R2 : cl_na h k v) {j : Nat} (hj : j < v.1 1) : am_Mi yX5_arcUnder cX5_arcUnder 2 (some .int) 2 45 [am_r (.inr k) 0, am_i ((iI j))] h (iI (pv_ar v (pv_ct v j))) h := by
  have hb := pv_ct_b hv hj
  have hc := pv_tA_b hv (Nat.le_refl (v.1 0))
  have hd : pv_wT v ≤ 14400 := hc.2
  refine am_M.ofi (A := [some (am_r (.inr k) 0), some (am_i ((iI j)))]) (by decide +kernel) rfl (ble rfl) (fun Q hQ => ?_)
  refine rl_a0 dX5_arcUnder_0 ?_
  refine rg_R (.inr k) 1 dX5_arcUnder_1 fg_X5_12 rfl rfl rfl (ok_P hk rfl) ?_
  refine rl_a0 dX5_arcUnder_4 ?_
  refine rl_i1 dX5_arcUnder_5 ?_
  refine rc_V1i dX5_arcUnder_6 ml_X5_88 mc_X5_centreTurn (k_centreTurn h hk hv R R2 hj) rfl rfl rfl (ok_P hk rfl) rfl rfl rfl ?_
  refine rc_V1i dX5_arcUnder_9 ml_X5_100 mc_X0_arcAround (k_arcAround h hk hv R (t := pv_ct v j) (by omega)) rfl rfl rfl (ok_P hk rfl) rfl rfl rfl ?_
  exact ar_iret dX5_arcUnder_12 rfl rfl (hQ)
theorem k_hardnessUnder (h : am_H) {k : Nat} (hk : k < 10) {v : pv_T} (hv : pv_ok v) (R : cl_cu h k v) (R2 : cl_na h k v) {j : Nat} (hj : j < v.1 1) : am_Mi yX5_hardnessUnder cX5_hardnessUnder 2 (some .int) 2 45 [am_r (.inr k) 0, am_i ((iI j))] h (iI (pv_hd v (pv_ct v j))) h := by
  have hb := pv_ct_b hv hj
  have hc := pv_tA_b hv (Nat.le_refl (v.1 0))
  have hd : pv_wT v ≤ 14400 := hc.2
  refine am_M.ofi (A := [some (am_r (.inr k) 0), some (am_i ((iI j)))]) (by decide +kernel) rfl (ble rfl) (fun Q hQ => ?_)
  refine rl_a0 dX5_hardnessUnder_0 ?_
  refine rg_R (.inr k) 1 dX5_hardnessUnder_1 fg_X5_12 rfl rfl rfl (ok_P hk rfl) ?_
  refine rl_a0 dX5_hardnessUnder_4 ?_
  refine rl_i1 dX5_hardnessUnder_5 ?_
  refine rc_V1i dX5_hardnessUnder_6 ml_X5_88 mc_X5_centreTurn (k_centreTurn h hk hv R R2 hj) rfl rfl rfl (ok_P hk rfl) rfl rfl rfl ?_
  refine rc_V1i dX5_hardnessUnder_9 ml_X5_103 mc_X0_hardnessAt (k_hardnessAt h hk hv R (t := pv_ct v j) (by omega)) rfl rfl rfl (ok_P hk rfl) rfl rfl rfl ?_
  exact ar_iret dX5_hardnessUnder_12 rfl rfl (hQ)
/-- how many of the first n letters have their centre on arc a -/
def pv_cO (v : pv_T) (a : Int) (n : Nat) : Int := sI (fun j => if pv_ar v (pv_ct v j) = a then 1 else 0) n
theorem k_centresOn (h : am_H) {k : Nat} (hk : k < 10) {v : pv_T} (hv : pv_ok v) (R : cl_cu h k v) (R2 : cl_na h k v) {a : Int} (ha : -2147483648 ≤ a ∧ a < 2147483648) : am_Mi yX5_centresOn cX5_centresOn 4 (some .int) 3 66 [am_r (.inr k) 0, am_i ((iI a))] h (iI (pv_cO v a (v.1 1))) h := by
  have h8 := hv.1
  refine am_M.ofi (A := [some (am_r (.inr k) 0), some (am_i ((iI a))), none, none]) (by decide +kernel) rfl (ble rfl) (fun Q hQ => ?_)
  refine ar_iconst (iI (0)) dX5_centresOn_0 rfl ?_
  refine rs_i2 dX5_centresOn_1 rfl trivial ?_
  refine ar_iconst (iI (0)) dX5_centresOn_2 rfl ?_
  refine rs_i3 dX5_centresOn_3 rfl trivial ?_
  have key : ∀ (d i : Nat), v.1 1 - i = d → i ≤ v.1 1 → (am_V RX5 cX5_centresOn 4 (some .int) 3 66 0 0 none (am_Tm cX5_centresOn (some .int) Q) 0 0 4 [some (am_r (.inr k) 0), some (am_i (iI a)), some (am_i (iI (pv_cO v a i))), some (am_i (iI i))] [] h) := by
    intro d
    induction d with
    | zero =>
      intro i hd hi
      have e : i = v.1 1 := by omega
      refine rl_i3 dX5_centresOn_4 ?_
      refine rl_a0 dX5_centresOn_5 ?_
      refine rg_R (.inr k) 6 dX5_centresOn_6 fg_X5_21 rfl rfl rfl (ok_P hk rfl) ?_
      refine ar_getI dX5_centresOn_9 fg_X5_81 rfl rfl (ok_P hk rfl) ?_
      refine ar_ic_ge 33 dX5_centresOn_12 (by decide) (fun c1 => ?_) (fun c1 => ?_)
      · refine rl_i2 dX5_centresOn_33 ?_
        rw [e]
        exact ar_iret dX5_centresOn_34 rfl rfl (hQ)
      · rw [R2.1, iI_le (by omega) (by omega) (by omega) (by omega)] at c1
        omega
    | succ d ih =>
      intro i hd hi
      have hb := pv_ar_b v (pv_ct v i)
      refine rl_i3 dX5_centresOn_4 ?_
      refine rl_a0 dX5_centresOn_5 ?_
      refine rg_R (.inr k) 6 dX5_centresOn_6 fg_X5_21 rfl rfl rfl (ok_P hk rfl) ?_
      refine ar_getI dX5_centresOn_9 fg_X5_81 rfl rfl (ok_P hk rfl) ?_
      refine ar_ic_ge 33 dX5_centresOn_12 (by decide) (fun c1 => ?_) (fun c1 => ?_)
      · rw [R2.1, iI_le (by omega) (by omega) (by omega) (by omega)] at c1
        omega
      · refine rl_a0 dX5_centresOn_15 ?_
        refine rl_i3 dX5_centresOn_16 ?_
        refine rc_V1i dX5_centresOn_17 ml_X5_106 mc_X5_arcUnder (k_arcUnder h hk hv R R2 (j := i) (by omega)) rfl rfl rfl (ok_P hk rfl) rfl rfl rfl ?_
        have := ih (i + 1) (by omega) (by omega)
        refine rl_i1 dX5_centresOn_20 ?_
        refine ar_ic_ne 27 dX5_centresOn_21 (by decide) (fun c2 => ?_) (fun c2 => ?_)
        · rw [iI_eq (by omega) (by omega) ha.1 ha.2] at c2
          refine rn_1_3 dX5_centresOn_27 rfl trivial ?_
          refine ar_goto 4 dX5_centresOn_30 (by decide) ?_
          rw [iI_1]
          rw [show pv_cO v a (i + 1) = pv_cO v a i by show pv_cO v a i + (if pv_ar v (pv_ct v i) = a then 1 else 0) = _; rw [if_neg c2]; omega] at this
          exact this
        · rw [iI_eq (by omega) (by omega) ha.1 ha.2] at c2
          refine rn_1_2 dX5_centresOn_24 rfl trivial ?_
          refine rn_1_3 dX5_centresOn_27 rfl trivial ?_
          refine ar_goto 4 dX5_centresOn_30 (by decide) ?_
          rw [iI_1, iI_1]
          rw [show pv_cO v a (i + 1) = pv_cO v a i + 1 by show pv_cO v a i + (if pv_ar v (pv_ct v i) = a then 1 else 0) = _; rw [if_pos c2]] at this
          exact this
  exact key (v.1 1) 0 (by omega) (by omega)

