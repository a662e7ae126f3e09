/-! reads of a row whose scratches do not count -/
def mo_x (h : am_H) (v : pv_T) : Prop := (h.1 (.inl 0) 2 0 = iI (v.1 0) ∧ h.1 (.inl 0) 2 1 = iI (v.1 1) ∧ h.1 (.inl 0) 2 2 = iI (v.1 2) ∧ h.1 (.inl 0) 2 3 = iI (v.2 0 0) ∧ h.1 (.inl 0) 2 4 = iI (v.2 0 1) ∧ True) ∧ (∀ i, i < v.1 0 → ∀ c, c < 4 → h.1 (.inl 0) 2 (12 + 4 * i + c) = iI (v.2 (1 + c) i)) ∧ (∀ i, i < v.1 1 → ∀ c, c < 3 → h.1 (.inl 0) 2 (44 + 3 * i + c) = iI (v.2 (5 + c) i)) ∧ (∀ i, i < 26 → h.1 (.inl 0) 2 (104 + i) = iI (v.2 8 i)) ∧ True
section NSC
variable {h : am_H} {v : pv_T}
theorem x_ofArc (hv : pv_ok v) (R : mo_x h v) {i c : Nat} (hi : i < v.1 0) (hc : c < 4) : f_X12_ofArc (iI i) (iI c) h = some (iI (v.2 (1 + c) i)) := by
  have h8 := hv.1
  unfold f_X12_ofArc
  simp (disch := omega) only [xI_le, xI_lt, xI_eq, xI_0, xI_ib, if_pos, if_neg, if_true, if_false, xI_cl, Int.toNat_natCast, iI_m, iI_a, iI_s, iI_1, xI_n, Option.bind_some, Int.natCast_add, Int.natCast_one, xI_zb, if_bI0, if_bI1, xI_rn, xI_ti, show (12 + 4 * (i : Int) + (c : Int)).toNat = 12 + 4 * i + c from by omega, R.2.1 i hi c hc]
theorem x_ofLetter (hv : pv_ok v) (R : mo_x h v) {i c : Nat} (hi : i < v.1 1) (hc : c < 3) : f_X12_ofLetter (iI i) (iI c) h = some (iI (v.2 (5 + c) i)) := by
  have h8 := hv.1
  unfold f_X12_ofLetter
  simp (disch := omega) only [xI_le, xI_lt, xI_eq, xI_0, xI_ib, if_pos, if_neg, if_true, if_false, xI_cl, Int.toNat_natCast, iI_m, iI_a, iI_s, iI_1, xI_n, Option.bind_some, Int.natCast_add, Int.natCast_one, xI_zb, if_bI0, if_bI1, xI_rn, xI_ti, show (44 + 3 * (i : Int) + (c : Int)).toNat = 44 + 3 * i + c from by omega, R.2.2.1 i hi c hc]
theorem x_tenths (hv : pv_ok v) (R : mo_x h v) {i : Nat} (hi : i < v.1 0) : f_X12_tenths (iI i) h = some (iI (10 * v.2 2 i)) := by
  unfold f_X12_tenths
  have e := x_ofArc hv R hi (c := 1) (by omega)
  simp (disch := omega) only [xI_le, xI_lt, xI_eq, xI_0, xI_ib, if_pos, if_neg, if_true, if_false, xI_cl, Int.toNat_natCast, iI_m, iI_a, iI_s, iI_1, xI_n, Option.bind_some, Int.natCast_add, Int.natCast_one, xI_zb, if_bI0, if_bI1, xI_rn, xI_ti, show iI 1 = iI ((1 : Nat) : Int) from rfl, e]
theorem x_turnBefore (hv : pv_ok v) (R : mo_x h v) {n : Nat} (hn : n ≤ v.1 0) : f_X12_turnBefore (iI n) h = some (iI (pv_tA v n)) := by
  have h8 := hv.1
  have s := ch_to (fun i : Nat => f_X12_turnBefore_4 (iI n) (iI (pv_tA v i)) (iI i) h) (Nat.zero_le n) (fun i _ hi => by
    show f_X12_turnBefore_4 _ _ _ _ = f_X12_turnBefore_4 _ _ _ _
    rw [e_X12_turnBefore_4]
    simp (disch := omega) only [xI_le, xI_lt, xI_eq, xI_0, xI_ib, if_pos, if_neg, if_true, if_false, xI_cl, Int.toNat_natCast, iI_m, iI_a, iI_s, iI_1, xI_n, Option.bind_some, Int.natCast_add, Int.natCast_one, xI_zb, if_bI0, if_bI1, xI_rn, xI_ti, x_tenths hv R (i := i) (by omega), pv_tA_s])
  refine Eq.trans s ?_
  show f_X12_turnBefore_4 _ _ _ _ = _
  rw [e_X12_turnBefore_4]
  simp (disch := omega) only [xI_le, xI_lt, xI_eq, xI_0, xI_ib, if_pos, if_neg, if_true, if_false, xI_cl, Int.toNat_natCast, iI_m, iI_a, iI_s, iI_1, xI_n, Option.bind_some, Int.natCast_add, Int.natCast_one, xI_zb, if_bI0, if_bI1, xI_rn, xI_ti]
theorem x_wholeTurn (hv : pv_ok v) (R : mo_x h v) : f_X12_wholeTurn h = some (iI (pv_wT v)) := by
  unfold f_X12_wholeTurn
  simp (disch := omega) only [xI_le, xI_lt, xI_eq, xI_0, xI_ib, if_pos, if_neg, if_true, if_false, xI_cl, Int.toNat_natCast, iI_m, iI_a, iI_s, iI_1, xI_n, Option.bind_some, Int.natCast_add, Int.natCast_one, xI_zb, if_bI0, if_bI1, xI_rn, xI_ti, Int.toNat_zero, R.1.1, x_turnBefore hv R (Nat.le_refl _)]
  rfl
theorem x_ofArc0 (hv : pv_ok v) (R : mo_x h v) {i : Nat} (hi : i < v.1 0) : f_X12_ofArc (iI i) (iI 0) h = some (iI (v.2 1 i)) := x_ofArc hv R hi (c := 0) (by omega)
theorem x_partsBefore (hv : pv_ok v) (R : mo_x h v) {n : Nat} (hn : n ≤ v.1 0) : f_X12_partsBefore (iI n) h = some (iI (pv_pA v n)) := by
  have h8 := hv.1
  have s := ch_to (fun i : Nat => f_X12_partsBefore_4 (iI n) (iI (pv_pA v i)) (iI i) h) (Nat.zero_le n) (fun i _ hi => by
    show f_X12_partsBefore_4 _ _ _ _ = f_X12_partsBefore_4 _ _ _ _
    rw [e_X12_partsBefore_4]
    simp (disch := omega) only [xI_le, xI_lt, xI_eq, xI_0, xI_ib, if_pos, if_neg, if_true, if_false, xI_cl, Int.toNat_natCast, iI_m, iI_a, iI_s, iI_1, xI_n, Option.bind_some, Int.natCast_add, Int.natCast_one, xI_zb, if_bI0, if_bI1, xI_rn, xI_ti, x_tenths hv R (i := i) (by omega), x_ofArc0 hv R (i := i) (by omega), pv_pA_s])
  refine Eq.trans s ?_
  show f_X12_partsBefore_4 _ _ _ _ = _
  rw [e_X12_partsBefore_4]
  simp (disch := omega) only [xI_le, xI_lt, xI_eq, xI_0, xI_ib, if_pos, if_neg, if_true, if_false, xI_cl, Int.toNat_natCast, iI_m, iI_a, iI_s, iI_1, xI_n, Option.bind_some, Int.natCast_add, Int.natCast_one, xI_zb, if_bI0, if_bI1, xI_rn, xI_ti]
theorem x_wholeParts (hv : pv_ok v) (R : mo_x h v) : f_X12_wholeParts h = some (iI (pv_wP v)) := by
  unfold f_X12_wholeParts
  simp (disch := omega) only [xI_le, xI_lt, xI_eq, xI_0, xI_ib, if_pos, if_neg, if_true, if_false, xI_cl, Int.toNat_natCast, iI_m, iI_a, iI_s, iI_1, xI_n, Option.bind_some, Int.natCast_add, Int.natCast_one, xI_zb, if_bI0, if_bI1, xI_rn, xI_ti, Int.toNat_zero, R.1.1, x_partsBefore hv R (Nat.le_refl _)]
  rfl
theorem x_arcOf (hv : pv_ok v) (R : mo_x h v) {t : Int} (ht : -2147483648 ≤ t ∧ t < 2147483648) : f_X12_arcOf (iI t) h = some (iI (pv_ar v t)) := by
  have h8 := hv.1.1
  have hm := pv_fst_le (fun i => decide (t < pv_tA v (i + 1))) (v.1 0) 0
  have hat := pv_fst_at (fun i => decide (t < pv_tA v (i + 1))) (v.1 0) 0
  have hlt := pv_fst_lt (fun i => decide (t < pv_tA v (i + 1))) (v.1 0) 0
  unfold pv_ar
  generalize pv_fst (fun i => decide (t < pv_tA v (i + 1))) (v.1 0) 0 = m at hm hat hlt ⊢
  have s := ch_to (fun i : Nat => f_X12_arcOf_4 (iI t) (iI (pv_tA v i)) (iI i) h) (Nat.zero_le m) (fun i _ hi => by
    show f_X12_arcOf_4 _ _ _ _ = f_X12_arcOf_4 _ _ _ _
    have hb := pv_tA_b hv (n := i + 1) (by omega)
    have hc := hlt i (by omega) hi
    simp only [decide_eq_false_iff_not] at hc
    rw [pv_tA_s] at hb hc
    rw [e_X12_arcOf_4]
    simp (disch := omega) only [xI_le, xI_lt, xI_eq, xI_0, xI_ib, if_pos, if_neg, if_true, if_false, xI_cl, Int.toNat_natCast, iI_m, iI_a, iI_s, iI_1, xI_n, Option.bind_some, Int.natCast_add, Int.natCast_one, xI_zb, if_bI0, if_bI1, xI_rn, xI_ti, Int.toNat_zero, R.1.1, x_tenths hv R (i := i) (by omega), pv_tA_s])
  refine Eq.trans s ?_
  show f_X12_arcOf_4 _ _ _ _ = _
  rw [e_X12_arcOf_4]
  by_cases hmn : m < v.1 0
  · have hb := pv_tA_b hv (n := m + 1) (by omega)
    have hc := hat (by omega)
    simp only [decide_eq_true_eq] at hc
    rw [pv_tA_s] at hb hc
    simp (disch := omega) only [xI_le, xI_lt, xI_eq, xI_0, xI_ib, if_pos, if_neg, if_true, if_false, xI_cl, Int.toNat_natCast, iI_m, iI_a, iI_s, iI_1, xI_n, Option.bind_some, Int.natCast_add, Int.natCast_one, xI_zb, if_bI0, if_bI1, xI_rn, xI_ti, Int.toNat_zero, R.1.1, x_tenths hv R (i := m) (by omega)]
  · simp (disch := omega) only [xI_le, xI_lt, xI_eq, xI_0, xI_ib, if_pos, if_neg, if_true, if_false, xI_cl, Int.toNat_natCast, iI_m, iI_a, iI_s, iI_1, xI_n, Option.bind_some, Int.natCast_add, Int.natCast_one, xI_zb, if_bI0, if_bI1, xI_rn, xI_ti, Int.toNat_zero, R.1.1]
theorem x_partsOf (hv : pv_ok v) (R : mo_x h v) {t : Int} (ht : 0 ≤ t) (htw : t ≤ pv_wT v) : f_X12_partsOf (iI t) h = some (iI (pv_pT v t (v.1 0))) := by
  have h8 := hv.1.1
  have hw := pv_tW_b hv
  have hb := pv_ar_b v t
  unfold f_X12_partsOf
  by_cases hn : 0 < v.1 0
  · obtain ⟨a, ha, hlt, h1, h2, -⟩ := pv_ar_at (v := v) ht hn
    simp (disch := omega) only [xI_le, xI_lt, xI_eq, xI_0, xI_ib, if_pos, if_neg, if_true, if_false, xI_cl, Int.toNat_natCast, iI_m, iI_a, iI_s, iI_1, xI_n, Option.bind_some, Int.natCast_add, Int.natCast_one, xI_zb, if_bI0, if_bI1, xI_rn, xI_ti, x_arcOf hv R (t := t) (by omega), ha, x_partsBefore hv R (n := a) (by omega), x_ofArc0 hv R hlt, x_turnBefore hv R (n := a) (by omega)]
    rw [pv_pT_at hv ht htw hlt h1 h2]
  · have e : v.1 0 = 0 := by omega
    have e2 : pv_ar v t = -1 := by omega
    rw [x_arcOf hv R (t := t) (by omega), e2, Option.bind_some, if_pos rfl, e]
    rfl
theorem x_centre (hv : pv_ok v) (R : mo_x h v) {j : Nat} (hj : j < v.1 1) : f_X12_centre (iI j) h = some (iI (pv_ct v j)) := by
  have h8 := hv.1
  have hb := pv_ct_b hv hj
  unfold f_X12_centre
  simp (disch := omega) only [xI_le, xI_lt, xI_eq, xI_0, xI_ib, if_pos, if_neg, if_true, if_false, xI_cl, Int.toNat_natCast, iI_m, iI_a, iI_s, iI_1, xI_n, Option.bind_some, Int.natCast_add, Int.natCast_one, xI_zb, if_bI0, if_bI1, xI_rn, xI_ti, Int.toNat_one, R.1.2.1, x_wholeTurn hv R]
  simp (disch := omega) only [xI_le, xI_lt, xI_eq, xI_0, xI_ib, if_pos, if_neg, if_true, if_false, xI_cl, Int.toNat_natCast, iI_m, iI_a, iI_s, iI_1, xI_n, Option.bind_some, Int.natCast_add, Int.natCast_one, xI_zb, if_bI0, if_bI1, xI_rn, xI_ti, xI_dn]
  rfl
theorem x_ofL0 (hv : pv_ok v) (R : mo_x h v) {i : Nat} (hi : i < v.1 1) : f_X12_ofLetter (iI i) (iI 0) h = some (iI (v.2 5 i)) := x_ofLetter hv R hi (c := 0) (by omega)
theorem x_widthOf (hv : pv_ok v) (R : mo_x h v) {j : Nat} (hj : j < v.1 1) : f_X12_widthOf (iI j) h = some (iI (pv_w v j)) := by
  have h1 := hv.2.2.1 j hj
  unfold f_X12_widthOf
  simp (disch := omega) only [xI_le, xI_lt, xI_eq, xI_0, xI_ib, if_pos, if_neg, if_true, if_false, xI_cl, Int.toNat_natCast, iI_m, iI_a, iI_s, iI_1, xI_n, Option.bind_some, Int.natCast_add, Int.natCast_one, xI_zb, if_bI0, if_bI1, xI_rn, xI_ti, x_ofL0 hv R hj, show (104 + v.2 5 j).toNat = 104 + (v.2 5 j).toNat from by omega, R.2.2.2.1 (v.2 5 j).toNat (by omega)]
  rfl
theorem x_leftOf (hv : pv_ok v) (R : mo_x h v) {j : Nat} (hj : j < v.1 1) : f_X12_leftOf (iI j) h = some (iI (pv_le v j)) := by
  have hb := pv_ct_b hv hj
  unfold f_X12_leftOf
  simp (disch := omega) only [xI_le, xI_lt, xI_eq, xI_0, xI_ib, if_pos, if_neg, if_true, if_false, xI_cl, Int.toNat_natCast, iI_m, iI_a, iI_s, iI_1, xI_n, Option.bind_some, Int.natCast_add, Int.natCast_one, xI_zb, if_bI0, if_bI1, xI_rn, xI_ti, x_centre hv R hj, x_partsOf hv R hb.1 hb.2.1, x_widthOf hv R hj]
  rfl
theorem x_rightOf (hv : pv_ok v) (R : mo_x h v) {j : Nat} (hj : j < v.1 1) : f_X12_rightOf (iI j) h = some (iI (pv_re v j)) := by
  have hb := pv_ct_b hv hj
  unfold f_X12_rightOf
  simp (disch := omega) only [xI_le, xI_lt, xI_eq, xI_0, xI_ib, if_pos, if_neg, if_true, if_false, xI_cl, Int.toNat_natCast, iI_m, iI_a, iI_s, iI_1, xI_n, Option.bind_some, Int.natCast_add, Int.natCast_one, xI_zb, if_bI0, if_bI1, xI_rn, xI_ti, x_centre hv R hj, x_partsOf hv R hb.1 hb.2.1, x_widthOf hv R hj]
  rfl
theorem x_roomOf (hv : pv_ok v) (R : mo_x h v) {i : Nat} (hi : i ≤ v.1 1) : f_X12_roomOf (iI i) h = some (iI (pv_rm v i)) := by
  have h8 := hv.1
  have key : ∀ y : Int, f_X12_roomOf_15 (iI i) (iI y) h = some (iI ((if i < v.1 1 then pv_le v i else pv_wP v) - y)) := by
    intro y
    unfold f_X12_roomOf_15
    by_cases c : i < v.1 1
    · simp (disch := omega) only [xI_le, xI_lt, xI_eq, xI_0, xI_ib, if_pos, if_neg, if_true, if_false, xI_cl, Int.toNat_natCast, iI_m, iI_a, iI_s, iI_1, xI_n, Option.bind_some, Int.natCast_add, Int.natCast_one, xI_zb, if_bI0, if_bI1, xI_rn, xI_ti, Int.toNat_one, R.1.2.1, x_leftOf hv R c]
    · simp (disch := omega) only [xI_le, xI_lt, xI_eq, xI_0, xI_ib, if_pos, if_neg, if_true, if_false, xI_cl, Int.toNat_natCast, iI_m, iI_a, iI_s, iI_1, xI_n, Option.bind_some, Int.natCast_add, Int.natCast_one, xI_zb, if_bI0, if_bI1, xI_rn, xI_ti, Int.toNat_one, R.1.2.1, x_wholeParts hv R]
  unfold f_X12_roomOf
  cases i with
  | zero => exact key 0
  | succ i =>
    simp (disch := omega) only [xI_le, xI_lt, xI_eq, xI_0, xI_ib, if_pos, if_neg, if_true, if_false, xI_cl, Int.toNat_natCast, iI_m, iI_a, iI_s, iI_1, xI_n, Option.bind_some, Int.natCast_add, Int.natCast_one, xI_zb, if_bI0, if_bI1, xI_rn, xI_ti, show ((i : Int) + 1 - 1) = i from by omega, x_rightOf hv R (j := i) (by omega)]
    have := key (pv_re v i)
    rw [Int.natCast_add, Int.natCast_one] at this
    exact this
theorem x_isCrowded (hv : pv_ok v) (R : mo_x h v) {i : Nat} (hi : i ≤ v.1 1) : f_X12_isCrowded (iI i) h = some (iI (bI (pv_rm v i < 100 * v.2 0 1))) := by
  have hm := hv.2.2.2.2.2.2
  have hb := pv_rm_b hv hi
  unfold f_X12_isCrowded
  simp (disch := omega) only [xI_le, xI_lt, xI_eq, xI_0, xI_ib, if_pos, if_neg, if_true, if_false, xI_cl, Int.toNat_natCast, iI_m, iI_a, iI_s, iI_1, xI_n, Option.bind_some, Int.natCast_add, Int.natCast_one, xI_zb, if_bI0, if_bI1, xI_rn, xI_ti, x_roomOf hv R hi, show (4 : Int).toNat = 4 from rfl, R.1.2.2.2.2.1]
  unfold bI
  by_cases c : pv_rm v i < 100 * v.2 0 1
  · simp (disch := omega) only [xI_le, xI_lt, xI_eq, xI_0, xI_ib, if_pos, if_neg, if_true, if_false, xI_cl, Int.toNat_natCast, iI_m, iI_a, iI_s, iI_1, xI_n, Option.bind_some, Int.natCast_add, Int.natCast_one, xI_zb, if_bI0, if_bI1, xI_rn, xI_ti]
  · simp (disch := omega) only [xI_le, xI_lt, xI_eq, xI_0, xI_ib, if_pos, if_neg, if_true, if_false, xI_cl, Int.toNat_natCast, iI_m, iI_a, iI_s, iI_1, xI_n, Option.bind_some, Int.natCast_add, Int.natCast_one, xI_zb, if_bI0, if_bI1, xI_rn, xI_ti]
theorem x_crowdedMany (hv : pv_ok v) (R : mo_x h v) : f_X12_crowdedMany h = some (iI (cN (fun i => decide (pv_rm v i < 100 * v.2 0 1)) (v.1 1 + 1))) := by
  have h8 := hv.1
  have s := ch_to (fun i : Nat => f_X12_crowdedMany_4 (iI (cN (fun i => decide (pv_rm v i < 100 * v.2 0 1)) i)) (iI i) h) (Nat.zero_le (v.1 1 + 1)) (fun i _ hi => by
    show f_X12_crowdedMany_4 _ _ _ = f_X12_crowdedMany_4 _ _ _
    rw [e_X12_crowdedMany_4]
    simp (disch := omega) only [xI_le, xI_lt, xI_eq, xI_0, xI_ib, if_pos, if_neg, if_true, if_false, xI_cl, Int.toNat_natCast, iI_m, iI_a, iI_s, iI_1, xI_n, Option.bind_some, Int.natCast_add, Int.natCast_one, xI_zb, if_bI0, if_bI1, xI_rn, xI_ti, Int.toNat_one, R.1.2.1, x_isCrowded hv R (i := i) (by omega), m_truth]
    by_cases c : pv_rm v i < 100 * v.2 0 1
    · rw [cN_t (by simp [c]), show bI (pv_rm v i < 100 * v.2 0 1) = 1 from if_pos c]
      simp (disch := omega) only [xI_le, xI_lt, xI_eq, xI_0, xI_ib, if_pos, if_neg, if_true, if_false, xI_cl, Int.toNat_natCast, iI_m, iI_a, iI_s, iI_1, xI_n, Option.bind_some, Int.natCast_add, Int.natCast_one, xI_zb, if_bI0, if_bI1, xI_rn, xI_ti]
    · rw [cN_f (by simp [c]), show bI (pv_rm v i < 100 * v.2 0 1) = 0 from if_neg c, Int.add_zero])
  refine Eq.trans s ?_
  show f_X12_crowdedMany_4 _ _ _ = _
  rw [e_X12_crowdedMany_4]
  simp (disch := omega) only [xI_le, xI_lt, xI_eq, xI_0, xI_ib, if_pos, if_neg, if_true, if_false, xI_cl, Int.toNat_natCast, iI_m, iI_a, iI_s, iI_1, xI_n, Option.bind_some, Int.natCast_add, Int.natCast_one, xI_zb, if_bI0, if_bI1, xI_rn, xI_ti, Int.toNat_one, R.1.2.1]
theorem x_tightestNow (hv : pv_ok v) (R : mo_x h v) : f_X12_tightestNow h = some (iI (pv_ti v (v.1 1 + 1))) := by
  have h8 := hv.1
  have s := ch_to (fun i : Nat => f_X12_tightestNow_4 (iI (pv_ti v i)) (iI i) h) (m := 1) (n := v.1 1 + 1) (by omega) (fun i hi1 hi => by
    show f_X12_tightestNow_4 _ _ _ = f_X12_tightestNow_4 _ _ _
    have hb := pv_rm_b hv (i := i) (by omega)
    have ht : pv_ti v i ≤ i - 1 := by
      cases i with
      | zero => omega
      | succ i => exact pv_ti_le v i
    have hb2 := pv_rm_b hv (i := pv_ti v i) (by omega)
    rw [e_X12_tightestNow_4]
    by_cases c : pv_rm v i < pv_rm v (pv_ti v i)
    · rw [show pv_ti v (i + 1) = i from if_pos c]
      simp (disch := omega) only [xI_le, xI_lt, xI_eq, xI_0, xI_ib, if_pos, if_neg, if_true, if_false, xI_cl, Int.toNat_natCast, iI_m, iI_a, iI_s, iI_1, xI_n, Option.bind_some, Int.natCast_add, Int.natCast_one, xI_zb, if_bI0, if_bI1, xI_rn, xI_ti, Int.toNat_one, R.1.2.1, x_roomOf hv R (i := i) (by omega), x_roomOf hv R (i := pv_ti v i) (by omega)]
    · rw [show pv_ti v (i + 1) = pv_ti v i from if_neg c]
      simp (disch := omega) only [xI_le, xI_lt, xI_eq, xI_0, xI_ib, if_pos, if_neg, if_true, if_false, xI_cl, Int.toNat_natCast, iI_m, iI_a, iI_s, iI_1, xI_n, Option.bind_some, Int.natCast_add, Int.natCast_one, xI_zb, if_bI0, if_bI1, xI_rn, xI_ti, Int.toNat_one, R.1.2.1, x_roomOf hv R (i := i) (by omega), x_roomOf hv R (i := pv_ti v i) (by omega)])
  have s0 : f_X12_tightestNow h = f_X12_tightestNow_4 (iI (pv_ti v 1)) (iI (1 : Nat)) h := by rw [pv_ti_1]; rfl
  rw [s0]
  refine Eq.trans s ?_
  show f_X12_tightestNow_4 _ _ _ = _
  rw [e_X12_tightestNow_4]
  simp (disch := omega) only [xI_le, xI_lt, xI_eq, xI_0, xI_ib, if_pos, if_neg, if_true, if_false, xI_cl, Int.toNat_natCast, iI_m, iI_a, iI_s, iI_1, xI_n, Option.bind_some, Int.natCast_add, Int.natCast_one, xI_zb, if_bI0, if_bI1, xI_rn, xI_ti, Int.toNat_one, R.1.2.1]
end NSC
