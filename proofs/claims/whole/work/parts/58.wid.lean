/-! reads of a row whose scratches are left out -/
def mo_w (h : am_H) (v : pv_T) : Prop := (h.1 (.inl 0) 2 0 = iI (v.1 0) ∧ h.1 (.inl 0) 2 1 = iI (v.1 1) ∧ True) ∧ (∀ i, i < v.1 0 → ∀ c, c < 4 → h.1 (.inl 0) 2 (12 + 4 * i + c) = iI (v.2 (1 + c) i)) ∧ (∀ i, i < v.1 1 → ∀ c, c < 3 → h.1 (.inl 0) 2 (44 + 3 * i + c) = iI (v.2 (5 + c) i)) ∧ True
section WID
variable {h : am_H} {v : pv_T}
theorem w_ofArc (hv : pv_ok v) (R : mo_w h v) {i c : Nat} (hi : i < v.1 0) (hc : c < 4) : f_X12_ofArc (iI i) (iI c) h = some (iI (v.2 (1 + c) i)) := by
  have h8 := hv.1
  unfold f_X12_ofArc
  simp (disch := omega) only [xI_le, xI_lt, xI_eq, xI_0, xI_ib, if_pos, if_neg, if_true, if_false, xI_cl, Int.toNat_natCast, iI_m, iI_a, iI_s, iI_1, xI_n, Option.bind_some, Int.natCast_add, Int.natCast_one, xI_zb, if_bI0, if_bI1, xI_rn, xI_ti, show (12 + 4 * (i : Int) + (c : Int)).toNat = 12 + 4 * i + c from by omega, R.2.1 i hi c hc]
theorem w_ofLetter (hv : pv_ok v) (R : mo_w h v) {i c : Nat} (hi : i < v.1 1) (hc : c < 3) : f_X12_ofLetter (iI i) (iI c) h = some (iI (v.2 (5 + c) i)) := by
  have h8 := hv.1
  unfold f_X12_ofLetter
  simp (disch := omega) only [xI_le, xI_lt, xI_eq, xI_0, xI_ib, if_pos, if_neg, if_true, if_false, xI_cl, Int.toNat_natCast, iI_m, iI_a, iI_s, iI_1, xI_n, Option.bind_some, Int.natCast_add, Int.natCast_one, xI_zb, if_bI0, if_bI1, xI_rn, xI_ti, show (44 + 3 * (i : Int) + (c : Int)).toNat = 44 + 3 * i + c from by omega, R.2.2.1 i hi c hc]
theorem w_tenths (hv : pv_ok v) (R : mo_w h v) {i : Nat} (hi : i < v.1 0) : f_X12_tenths (iI i) h = some (iI (10 * v.2 2 i)) := by
  unfold f_X12_tenths
  have e := w_ofArc hv R hi (c := 1) (by omega)
  simp (disch := omega) only [xI_le, xI_lt, xI_eq, xI_0, xI_ib, if_pos, if_neg, if_true, if_false, xI_cl, Int.toNat_natCast, iI_m, iI_a, iI_s, iI_1, xI_n, Option.bind_some, Int.natCast_add, Int.natCast_one, xI_zb, if_bI0, if_bI1, xI_rn, xI_ti, show iI 1 = iI ((1 : Nat) : Int) from rfl, e]
theorem w_turnBefore (hv : pv_ok v) (R : mo_w h v) {n : Nat} (hn : n ≤ v.1 0) : f_X12_turnBefore (iI n) h = some (iI (pv_tA v n)) := by
  have h8 := hv.1
  have s := ch_to (fun i : Nat => f_X12_turnBefore_4 (iI n) (iI (pv_tA v i)) (iI i) h) (Nat.zero_le n) (fun i _ hi => by
    show f_X12_turnBefore_4 _ _ _ _ = f_X12_turnBefore_4 _ _ _ _
    rw [e_X12_turnBefore_4]
    simp (disch := omega) only [xI_le, xI_lt, xI_eq, xI_0, xI_ib, if_pos, if_neg, if_true, if_false, xI_cl, Int.toNat_natCast, iI_m, iI_a, iI_s, iI_1, xI_n, Option.bind_some, Int.natCast_add, Int.natCast_one, xI_zb, if_bI0, if_bI1, xI_rn, xI_ti, w_tenths hv R (i := i) (by omega), pv_tA_s])
  refine Eq.trans s ?_
  show f_X12_turnBefore_4 _ _ _ _ = _
  rw [e_X12_turnBefore_4]
  simp (disch := omega) only [xI_le, xI_lt, xI_eq, xI_0, xI_ib, if_pos, if_neg, if_true, if_false, xI_cl, Int.toNat_natCast, iI_m, iI_a, iI_s, iI_1, xI_n, Option.bind_some, Int.natCast_add, Int.natCast_one, xI_zb, if_bI0, if_bI1, xI_rn, xI_ti]
theorem w_wholeTurn (hv : pv_ok v) (R : mo_w h v) : f_X12_wholeTurn h = some (iI (pv_wT v)) := by
  unfold f_X12_wholeTurn
  simp (disch := omega) only [xI_le, xI_lt, xI_eq, xI_0, xI_ib, if_pos, if_neg, if_true, if_false, xI_cl, Int.toNat_natCast, iI_m, iI_a, iI_s, iI_1, xI_n, Option.bind_some, Int.natCast_add, Int.natCast_one, xI_zb, if_bI0, if_bI1, xI_rn, xI_ti, Int.toNat_zero, R.1.1, w_turnBefore hv R (Nat.le_refl _)]
  rfl
theorem w_ofArc3 (hv : pv_ok v) (R : mo_w h v) {i : Nat} (hi : i < v.1 0) : f_X12_ofArc (iI i) (iI 3) h = some (iI (v.2 4 i)) := w_ofArc hv R hi (c := 3) (by omega)
theorem w_arcOf (hv : pv_ok v) (R : mo_w h v) {t : Int} (ht : -2147483648 ≤ t ∧ t < 2147483648) : f_X12_arcOf (iI t) h = some (iI (pv_ar v t)) := by
  have h8 := hv.1.1
  have hm := pv_fst_le (fun i => decide (t < pv_tA v (i + 1))) (v.1 0) 0
  have hat := pv_fst_at (fun i => decide (t < pv_tA v (i + 1))) (v.1 0) 0
  have hlt := pv_fst_lt (fun i => decide (t < pv_tA v (i + 1))) (v.1 0) 0
  unfold pv_ar
  generalize pv_fst (fun i => decide (t < pv_tA v (i + 1))) (v.1 0) 0 = m at hm hat hlt ⊢
  have s := ch_to (fun i : Nat => f_X12_arcOf_4 (iI t) (iI (pv_tA v i)) (iI i) h) (Nat.zero_le m) (fun i _ hi => by
    show f_X12_arcOf_4 _ _ _ _ = f_X12_arcOf_4 _ _ _ _
    have hb := pv_tA_b hv (n := i + 1) (by omega)
    have hc := hlt i (by omega) hi
    simp only [decide_eq_false_iff_not] at hc
    rw [pv_tA_s] at hb hc
    rw [e_X12_arcOf_4]
    simp (disch := omega) only [xI_le, xI_lt, xI_eq, xI_0, xI_ib, if_pos, if_neg, if_true, if_false, xI_cl, Int.toNat_natCast, iI_m, iI_a, iI_s, iI_1, xI_n, Option.bind_some, Int.natCast_add, Int.natCast_one, xI_zb, if_bI0, if_bI1, xI_rn, xI_ti, Int.toNat_zero, R.1.1, w_tenths hv R (i := i) (by omega), pv_tA_s])
  refine Eq.trans s ?_
  show f_X12_arcOf_4 _ _ _ _ = _
  rw [e_X12_arcOf_4]
  by_cases hmn : m < v.1 0
  · have hb := pv_tA_b hv (n := m + 1) (by omega)
    have hc := hat (by omega)
    simp only [decide_eq_true_eq] at hc
    rw [pv_tA_s] at hb hc
    simp (disch := omega) only [xI_le, xI_lt, xI_eq, xI_0, xI_ib, if_pos, if_neg, if_true, if_false, xI_cl, Int.toNat_natCast, iI_m, iI_a, iI_s, iI_1, xI_n, Option.bind_some, Int.natCast_add, Int.natCast_one, xI_zb, if_bI0, if_bI1, xI_rn, xI_ti, Int.toNat_zero, R.1.1, w_tenths hv R (i := m) (by omega)]
  · simp (disch := omega) only [xI_le, xI_lt, xI_eq, xI_0, xI_ib, if_pos, if_neg, if_true, if_false, xI_cl, Int.toNat_natCast, iI_m, iI_a, iI_s, iI_1, xI_n, Option.bind_some, Int.natCast_add, Int.natCast_one, xI_zb, if_bI0, if_bI1, xI_rn, xI_ti, Int.toNat_zero, R.1.1]
theorem w_centre (hv : pv_ok v) (R : mo_w h v) {j : Nat} (hj : j < v.1 1) : f_X12_centre (iI j) h = some (iI (pv_ct v j)) := by
  have h8 := hv.1
  have hb := pv_ct_b hv hj
  unfold f_X12_centre
  simp (disch := omega) only [xI_le, xI_lt, xI_eq, xI_0, xI_ib, if_pos, if_neg, if_true, if_false, xI_cl, Int.toNat_natCast, iI_m, iI_a, iI_s, iI_1, xI_n, Option.bind_some, Int.natCast_add, Int.natCast_one, xI_zb, if_bI0, if_bI1, xI_rn, xI_ti, Int.toNat_one, R.1.2.1, w_wholeTurn hv R]
  simp (disch := omega) only [xI_le, xI_lt, xI_eq, xI_0, xI_ib, if_pos, if_neg, if_true, if_false, xI_cl, Int.toNat_natCast, iI_m, iI_a, iI_s, iI_1, xI_n, Option.bind_some, Int.natCast_add, Int.natCast_one, xI_zb, if_bI0, if_bI1, xI_rn, xI_ti, xI_dn]
  rfl
theorem w_ofL0 (hv : pv_ok v) (R : mo_w h v) {i : Nat} (hi : i < v.1 1) : f_X12_ofLetter (iI i) (iI 0) h = some (iI (v.2 5 i)) := w_ofLetter hv R hi (c := 0) (by omega)
theorem w_ofL1 (hv : pv_ok v) (R : mo_w h v) {i : Nat} (hi : i < v.1 1) : f_X12_ofLetter (iI i) (iI 1) h = some (iI (v.2 6 i)) := w_ofLetter hv R hi (c := 1) (by omega)
theorem w_strokesOf (hv : pv_ok v) (R : mo_w h v) {j : Nat} (hj : j < v.1 1) : f_X12_strokesOf (iI j) h = some (iI (1 + v.2 5 j % 4)) := by
  have h1 := hv.2.2.1 j hj
  unfold f_X12_strokesOf
  simp (disch := omega) only [xI_le, xI_lt, xI_eq, xI_0, xI_ib, if_pos, if_neg, if_true, if_false, xI_cl, Int.toNat_natCast, iI_m, iI_a, iI_s, iI_1, xI_n, Option.bind_some, Int.natCast_add, Int.natCast_one, xI_zb, if_bI0, if_bI1, xI_rn, xI_ti, w_ofL0 hv R hj]
theorem w_hardness (hv : pv_ok v) (R : mo_w h v) {j : Nat} (hj : j < v.1 1) : f_X12_hardness (iI j) h = some (iI (pv_hd v (pv_ct v j))) := by
  have h8 := hv.1
  have hb := pv_ct_b hv hj
  have hw := pv_tW_b hv
  have ha := pv_ar_b v (pv_ct v j)
  unfold f_X12_hardness pv_hd
  simp (disch := omega) only [xI_le, xI_lt, xI_eq, xI_0, xI_ib, if_pos, if_neg, if_true, if_false, xI_cl, Int.toNat_natCast, iI_m, iI_a, iI_s, iI_1, xI_n, Option.bind_some, Int.natCast_add, Int.natCast_one, xI_zb, if_bI0, if_bI1, xI_rn, xI_ti, w_centre hv R hj, w_arcOf hv R (t := pv_ct v j) (by omega)]
  by_cases c : pv_ar v (pv_ct v j) = -1
  · rw [if_pos c, if_neg (by omega)]
  · have e : pv_ar v (pv_ct v j) = ((pv_ar v (pv_ct v j)).toNat : Int) := by omega
    have := w_ofArc3 hv R (i := (pv_ar v (pv_ct v j)).toNat) (by omega)
    rw [← e] at this
    rw [if_neg c, if_pos (by omega), this, Option.bind_some]
end WID
