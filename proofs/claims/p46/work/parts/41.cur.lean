theorem k_isWithin {n a b : Int} (hn : -2147483648 ≤ n ∧ n < 2147483648) (ha : -2147483648 ≤ a ∧ a < 2147483648) (hb : -2147483648 ≤ b ∧ b < 2147483648) : f_X11_isWithin (iI n) (iI a) (iI b) = some (iI (bI (a ≤ n ∧ n ≤ b))) := by
  unfold f_X11_isWithin bI
  simp (disch := omega) only [xI_lt]
  (repeat' split) <;> first | rfl | (exfalso; omega)
theorem k_min {a b : Int} (ha : -2147483648 ≤ a ∧ a < 2147483648) (hb : -2147483648 ≤ b ∧ b < 2147483648) : f_J9_min_7cf53 (iI a) (iI b) = some (iI (if a ≤ b then a else b)) := by
  unfold f_J9_min_7cf53
  simp (disch := omega) only [xI_lt]
  (repeat' split) <;> first | rfl | (exfalso; omega)
theorem k_max {a b : Int} (ha : -2147483648 ≤ a ∧ a < 2147483648) (hb : -2147483648 ≤ b ∧ b < 2147483648) : f_J9_max_7cf53 (iI a) (iI b) = some (iI (if a < b then b else a)) := by
  unfold f_J9_max_7cf53
  simp (disch := omega) only [xI_le, xI_lt]
  (repeat' split) <;> first | rfl | (exfalso; omega)
theorem k_tenths {h : am_H} {k : Nat} {v : pv_T} (hv : pv_ok v) (R : cl_cu h k v) {i : Nat} (hi : i < v.1 0) : f_X0_tenths k (iI i) h = some (iI (10 * v.2 2 i)) := by
  have h8 := hv.1.1
  unfold f_X0_tenths
  simp (disch := omega) only [xI_ib, if_true, xI_cl, Int.toNat_natCast, (R.2 i hi).2.1, iI_m]
theorem k_turnAhead {h : am_H} {k : Nat} {v : pv_T} (hv : pv_ok v) (R : cl_cu h k v) {n : Nat} (hn : n ≤ v.1 0) : f_X0_turnAhead k (iI n) h = some (iI (pv_tA v n)) := by
  have h8 := hv.1.1
  have s := ch_to (fun i : Nat => f_X0_turnAhead_4 k (iI n) (iI (pv_tA v i)) (iI i) h) (Nat.zero_le n) (fun i _ hi => by
    show f_X0_turnAhead_4 _ _ _ _ _ = f_X0_turnAhead_4 _ _ _ _ _
    rw [e_X0_turnAhead_4]
    simp (disch := omega) only [xI_le, if_neg, xI_ib, if_true, xI_cl, Int.toNat_natCast, (R.2 i (by omega)).2.1, iI_m, iI_a, iI_1, pv_tA_s, Int.natCast_add, Int.natCast_one])
  refine Eq.trans s ?_
  show f_X0_turnAhead_4 _ _ _ _ _ = _
  rw [e_X0_turnAhead_4]
  simp (disch := omega) only [xI_le, if_pos]
theorem k_partsAhead {h : am_H} {k : Nat} {v : pv_T} (hv : pv_ok v) (R : cl_cu h k v) {n : Nat} (hn : n ≤ v.1 0) : f_X0_partsAhead k (iI n) h = some (iI (pv_pA v n)) := by
  have h8 := hv.1.1
  have s := ch_to (fun i : Nat => f_X0_partsAhead_4 k (iI n) (iI (pv_pA v i)) (iI i) h) (Nat.zero_le n) (fun i _ hi => by
    show f_X0_partsAhead_4 _ _ _ _ _ = f_X0_partsAhead_4 _ _ _ _ _
    rw [e_X0_partsAhead_4]
    simp (disch := omega) only [xI_le, if_neg, xI_ib, if_true, xI_cl, Int.toNat_natCast, (R.2 i (by omega)).1, (R.2 i (by omega)).2.1, iI_m, iI_a, iI_1, pv_pA_s, Int.natCast_add, Int.natCast_one, Int.mul_assoc])
  refine Eq.trans s ?_
  show f_X0_partsAhead_4 _ _ _ _ _ = _
  rw [e_X0_partsAhead_4]
  simp (disch := omega) only [xI_le, if_pos]
theorem k_wholeTurn {h : am_H} {k : Nat} {v : pv_T} (hv : pv_ok v) (R : cl_cu h k v) : f_X0_wholeTurn k h = some (iI (pv_wT v)) := by
  unfold f_X0_wholeTurn
  simp only [R.1, k_turnAhead hv R (Nat.le_refl _), Option.bind_some, pv_wT]
theorem k_wholeParts {h : am_H} {k : Nat} {v : pv_T} (hv : pv_ok v) (R : cl_cu h k v) : f_X0_wholeParts k h = some (iI (pv_wP v)) := by
  unfold f_X0_wholeParts
  simp only [R.1, k_partsAhead hv R (Nat.le_refl _), Option.bind_some, pv_wP]
theorem pv_ar_b (v : pv_T) (t : Int) : -1 ≤ pv_ar v t ∧ pv_ar v t < v.1 0 := by
  unfold pv_ar
  split <;> omega
theorem k_arcAround {h : am_H} {k : Nat} {v : pv_T} (hv : pv_ok v) (R : cl_cu h k v) {t : Int} (ht : -2147483648 ≤ t ∧ t < 2147483648) : f_X0_arcAround k (iI t) h = some (iI (pv_ar v t)) := by
  have h8 := hv.1.1
  have hm := pv_fst_le (fun i => decide (t < pv_tA v (i + 1))) (v.1 0) 0
  have hat := pv_fst_at (fun i => decide (t < pv_tA v (i + 1))) (v.1 0) 0
  have hlt := pv_fst_lt (fun i => decide (t < pv_tA v (i + 1))) (v.1 0) 0
  unfold pv_ar
  generalize pv_fst (fun i => decide (t < pv_tA v (i + 1))) (v.1 0) 0 = m at hm hat hlt ⊢
  have s := ch_to (fun i : Nat => f_X0_arcAround_4 k (iI t) (iI (pv_tA v i)) (iI i) h) (Nat.zero_le m) (fun i _ hi => by
    show f_X0_arcAround_4 _ _ _ _ _ = f_X0_arcAround_4 _ _ _ _ _
    have hb := pv_tA_b hv (n := i + 1) (by omega)
    have hc := hlt i (by omega) hi
    simp only [decide_eq_false_iff_not] at hc
    rw [pv_tA_s] at hb hc
    rw [e_X0_arcAround_4]
    simp (disch := omega) only [xI_le, xI_lt, xI_eq, xI_0, xI_ib, if_pos, if_neg, if_true, if_false, xI_cl, Int.toNat_natCast, iI_m, iI_a, iI_s, iI_1, xI_n, Option.bind_some, Int.natCast_add, Int.natCast_one, xI_zb, if_bI0, if_bI1, xI_rn, xI_ti, R.1, (R.2 i (by omega)).2.1, pv_tA_s])
  refine Eq.trans s ?_
  show f_X0_arcAround_4 _ _ _ _ _ = _
  rw [e_X0_arcAround_4]
  by_cases hmn : m < v.1 0
  · have hb := pv_tA_b hv (n := m + 1) (by omega)
    have hc := hat (by omega)
    simp only [decide_eq_true_eq] at hc
    rw [pv_tA_s] at hb hc
    simp (disch := omega) only [xI_le, xI_lt, xI_eq, xI_0, xI_ib, if_pos, if_neg, if_true, if_false, xI_cl, Int.toNat_natCast, iI_m, iI_a, iI_s, iI_1, xI_n, Option.bind_some, Int.natCast_add, Int.natCast_one, xI_zb, if_bI0, if_bI1, xI_rn, xI_ti, R.1, (R.2 m (by omega)).2.1]
  · by_cases h0 : v.1 0 = 0
    · simp (disch := omega) only [xI_le, xI_lt, xI_eq, xI_0, xI_ib, if_pos, if_neg, if_true, if_false, xI_cl, Int.toNat_natCast, iI_m, iI_a, iI_s, iI_1, xI_n, Option.bind_some, Int.natCast_add, Int.natCast_one, xI_zb, if_bI0, if_bI1, xI_rn, xI_ti, R.1]
      rw [show (v.1 0 : Int) - 1 = -1 by omega]
    · simp (disch := omega) only [xI_le, xI_lt, xI_eq, xI_0, xI_ib, if_pos, if_neg, if_true, if_false, xI_cl, Int.toNat_natCast, iI_m, iI_a, iI_s, iI_1, xI_n, Option.bind_some, Int.natCast_add, Int.natCast_one, xI_zb, if_bI0, if_bI1, xI_rn, xI_ti, R.1]
theorem k_hardnessAt {h : am_H} {k : Nat} {v : pv_T} (hv : pv_ok v) (R : cl_cu h k v) {t : Int} (ht : -2147483648 ≤ t ∧ t < 2147483648) : f_X0_hardnessAt k (iI t) h = some (iI (pv_hd v t)) := by
  have h8 := hv.1.1
  have hb := pv_ar_b v t
  unfold f_X0_hardnessAt
  simp (disch := omega) only [xI_le, xI_lt, xI_eq, xI_0, xI_ib, if_pos, if_neg, if_true, if_false, xI_cl, Int.toNat_natCast, iI_m, iI_a, iI_s, iI_1, xI_n, Option.bind_some, Int.natCast_add, Int.natCast_one, xI_zb, if_bI0, if_bI1, xI_rn, xI_ti, k_arcAround hv R ht, R.1, k_isWithin (n := pv_ar v t) (a := 0) (b := (v.1 0 : Int) - 1) (by omega) (by omega) (by omega)]
  unfold pv_hd
  by_cases c : 0 ≤ pv_ar v t
  · simp (disch := omega) only [xI_le, xI_lt, xI_eq, xI_0, xI_ib, if_pos, if_neg, if_true, if_false, xI_cl, Int.toNat_natCast, iI_m, iI_a, iI_s, iI_1, xI_n, Option.bind_some, Int.natCast_add, Int.natCast_one, xI_zb, if_bI0, if_bI1, xI_rn, xI_ti, (R.2 (pv_ar v t).toNat (by omega)).2.2.1]
  · simp (disch := omega) only [xI_le, xI_lt, xI_eq, xI_0, xI_ib, if_pos, if_neg, if_true, if_false, xI_cl, Int.toNat_natCast, iI_m, iI_a, iI_s, iI_1, xI_n, Option.bind_some, Int.natCast_add, Int.natCast_one, xI_zb, if_bI0, if_bI1, xI_rn, xI_ti]
theorem pv_ps_b {v : pv_T} {t : Int} {i : Nat} (h : 0 ≤ v.2 2 i) : 0 ≤ pv_ps v t i ∧ pv_ps v t i ≤ 10 * v.2 2 i := by
  unfold pv_ps
  split
  · omega
  · split <;> omega
/-- what is left of a turn ahead of arc i -/
def pv_lf (v : pv_T) (t : Int) (i : Nat) : Int := if t < pv_tA v i then 0 else t - pv_tA v i
theorem pv_lf_s {v : pv_T} {t : Int} {i : Nat} (h : 0 ≤ v.2 2 i) : pv_lf v t (i + 1) = pv_lf v t i - pv_ps v t i := by
  unfold pv_lf pv_ps
  rw [pv_tA_s]
  split <;> split <;> (try split) <;> omega
theorem pv_lf_m {v : pv_T} {t : Int} {i : Nat} (h : 0 ≤ v.2 2 i) : (if pv_lf v t i ≤ 10 * v.2 2 i then pv_lf v t i else 10 * v.2 2 i) = pv_ps v t i := by
  unfold pv_lf pv_ps
  split <;> split <;> (try split) <;> omega
theorem pv_lf_b {v : pv_T} (hv : pv_ok v) {t : Int} (h0 : 0 ≤ t) {i : Nat} (h : i ≤ v.1 0) : 0 ≤ pv_lf v t i ∧ pv_lf v t i ≤ t := by
  have := pv_tA_b hv h
  unfold pv_lf
  split <;> omega
theorem pv_lf_0 {v : pv_T} {t : Int} (h : 0 ≤ t) : pv_lf v t 0 = t := by
  unfold pv_lf
  show (if t < 0 then 0 else t - 0) = t
  split <;> omega
theorem k_partsTo {h : am_H} {k : Nat} {v : pv_T} (hv : pv_ok v) (R : cl_cu h k v) {t : Int} (ht : 0 ≤ t ∧ t < 2147483648) : f_X0_partsTo k (iI t) h = some (iI (pv_pT v t (v.1 0))) := by
  have h8 := hv.1.1
  have s := ch_to (fun i : Nat => f_X0_partsTo_7 k (iI (pv_pT v t i)) (iI (pv_lf v t i)) (iI i) h) (Nat.zero_le (v.1 0)) (fun i _ hi => by
    show f_X0_partsTo_7 _ _ _ _ _ = f_X0_partsTo_7 _ _ _ _ _
    have hb := pv_lf_b hv ht.1 (i := i) (by omega)
    have hc := hv.2.1 i (by omega)
    rw [e_X0_partsTo_7]
    simp (disch := omega) only [xI_le, xI_lt, xI_eq, xI_0, xI_ib, if_pos, if_neg, if_true, if_false, xI_cl, Int.toNat_natCast, iI_m, iI_a, iI_s, iI_1, xI_n, Option.bind_some, Int.natCast_add, Int.natCast_one, xI_zb, if_bI0, if_bI1, xI_rn, xI_ti, R.1, k_tenths hv R hi, k_min (a := pv_lf v t i) (b := 10 * v.2 2 i) (by omega) (by omega), pv_lf_m (v := v) (t := t) (i := i) (by omega), (R.2 i (by omega)).1, pv_lf_s (v := v) (t := t) (i := i) (by omega)]
    rfl)
  unfold f_X0_partsTo
  rw [show iI t = iI (pv_lf v t 0) by rw [pv_lf_0 ht.1]]
  refine Eq.trans s ?_
  show f_X0_partsTo_7 _ _ _ _ _ = _
  rw [e_X0_partsTo_7]
  simp (disch := omega) only [xI_le, xI_lt, xI_eq, xI_0, xI_ib, if_pos, if_neg, if_true, if_false, xI_cl, Int.toNat_natCast, iI_m, iI_a, iI_s, iI_1, xI_n, Option.bind_some, Int.natCast_add, Int.natCast_one, xI_zb, if_bI0, if_bI1, xI_rn, xI_ti, R.1]
