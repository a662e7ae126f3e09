theorem pv_pT_b {v : pv_T} (hv : pv_ok v) {t : Int} {n : Nat} (h : n ≤ v.1 0) : 0 ≤ pv_pT v t n ∧ pv_pT v t n ≤ 2865600 := by
  have h1 := sI_b (f := fun i => v.2 1 i * pv_ps v t i) (n := n) (lo := 0) (hi := 358200) (fun i hi => by
    have q := hv.2.1 i (by omega)
    have p := pv_ps_b (v := v) (t := t) (i := i) (by omega)
    refine ⟨Int.mul_nonneg (by omega) (by omega), ?_⟩
    have a1 : v.2 1 i * pv_ps v t i ≤ 199 * pv_ps v t i := Int.mul_le_mul_of_nonneg_right (by omega) (by omega)
    omega)
  have h2 := hv.1.1
  unfold pv_pT
  omega
theorem pv_bT_b {v : pv_T} (hv : pv_ok v) {t : Int} {n : Nat} (h : n ≤ v.1 0) : -14400 ≤ pv_bT v t n ∧ pv_bT v t n ≤ 14400 := by
  have h1 := sI_b (f := fun i => if v.2 3 i = 0 then pv_ps v t i else - pv_ps v t i) (n := n) (lo := -1800) (hi := 1800) (fun i hi => by
    have q := hv.2.1 i (by omega)
    have p := pv_ps_b (v := v) (t := t) (i := i) (by omega)
    show -1800 ≤ (if v.2 3 i = 0 then pv_ps v t i else - pv_ps v t i) ∧ (if v.2 3 i = 0 then pv_ps v t i else - pv_ps v t i) ≤ 1800
    split <;> omega)
  have h2 := hv.1.1
  unfold pv_bT
  omega
theorem sg_x (x : Int32) : (0 ≤ x) ↔ x.toBitVec.msb = false := by
  rw [Int32.le_iff_toInt_le, BitVec.msb_eq_toInt]
  show 0 ≤ x.toInt ↔ decide (x.toInt < 0) = false
  rw [decide_eq_false_iff_not]
  omega
theorem sg_xor (x y : Int32) (hy : 0 ≤ y) : (0 ≤ x ^^^ y) ↔ 0 ≤ x := by
  rw [sg_x, sg_x, Int32.toBitVec_xor, BitVec.msb_xor, (sg_x y).mp hy, Bool.xor_false]
theorem k_floorMod {a : Int} (h1 : -100000 ≤ a) (h2 : a ≤ 100000) : f_J9_floorMod_7cf53 (iI a) (iI 3600) = some (iI (a % 3600)) := by
  have hd : iI a / iI 3600 = iI (a.tdiv 3600) := iI_d (by omega) (by omega) (by omega) (by omega) (by omega)
  have h36 : ¬ iI 3600 = 0 := by decide
  have hx : (0 ≤ iI a ^^^ iI 3600) = (0 ≤ a) := by
    rw [propext (sg_xor (iI a) (iI 3600) (by decide)), xI_0, xI_le (by omega) (by omega) (by omega) (by omega)]
  unfold f_J9_floorMod_7cf53
  rw [hd, if_neg h36]
  simp only [hx]
  by_cases h0 : 0 ≤ a
  · have e1 : a.tdiv 3600 = a / 3600 := Int.tdiv_eq_ediv_of_nonneg h0
    have e2 : a - a / 3600 * 3600 = a % 3600 := by omega
    rw [if_pos h0, e1, iI_m, iI_s, e2]
  · have e1 : a.tdiv 3600 = -((-a) / 3600) := by
      have : a.tdiv 3600 = -((-a).tdiv 3600) := by rw [Int.neg_tdiv, Int.neg_neg]
      rw [this, Int.tdiv_eq_ediv_of_nonneg (by omega)]
    rw [if_neg h0, e1, iI_m, iI_s]
    by_cases hz : (-a) % 3600 = 0
    · have e3 : a - -(-a / 3600) * 3600 = 0 := by omega
      have e4 : a % 3600 = 0 := by omega
      rw [e3, e4]
      rfl
    · have e4 : a % 3600 = a - -(-a / 3600) * 3600 + 3600 := by omega
      rw [e4]
      simp (disch := omega) only [xI_le, xI_lt, xI_eq, xI_0, xI_ib, if_pos, if_neg, if_true, if_false, xI_cl, Int.toNat_natCast, iI_m, iI_a, iI_s, iI_1, xI_n, Option.bind_some, Int.natCast_add, Int.natCast_one, xI_zb, if_bI0, if_bI1, xI_rn, xI_ti]
theorem k_headingTo {h : am_H} {k : Nat} {v : pv_T} (hv : pv_ok v) (R : cl_cu h k v) {t : Int} (ht : 0 ≤ t ∧ t < 2147483648) : f_X0_headingTo k (iI t) h = some (iI (pv_bT v t (v.1 0) % 3600)) := by
  have h8 := hv.1.1
  have s := ch_to (fun i : Nat => f_X0_headingTo_7 k (iI (pv_bT v t i)) (iI (pv_lf v t i)) (iI i) h) (Nat.zero_le (v.1 0)) (fun i _ hi => by
    show f_X0_headingTo_7 _ _ _ _ _ = f_X0_headingTo_7 _ _ _ _ _
    have hb := pv_lf_b hv ht.1 (i := i) (by omega)
    have hc := hv.2.1 i (by omega)
    rw [e_X0_headingTo_7]
    simp (disch := omega) only [xI_le, xI_lt, xI_eq, xI_0, xI_ib, if_pos, if_neg, if_true, if_false, xI_cl, Int.toNat_natCast, iI_m, iI_a, iI_s, iI_1, xI_n, Option.bind_some, Int.natCast_add, Int.natCast_one, xI_zb, if_bI0, if_bI1, xI_rn, xI_ti, R.1, k_tenths hv R hi, k_min (a := pv_lf v t i) (b := 10 * v.2 2 i) (by omega) (by omega), pv_lf_m (v := v) (t := t) (i := i) (by omega), (R.2 i (by omega)).2.2.2, e_X0_headingTo_47, pv_lf_s (v := v) (t := t) (i := i) (by omega)]
    show _ = f_X0_headingTo_7 k (iI (pv_bT v t i + if v.2 3 i = 0 then pv_ps v t i else - pv_ps v t i)) _ _ h
    split <;> rfl)
  unfold f_X0_headingTo
  rw [show iI t = iI (pv_lf v t 0) by rw [pv_lf_0 ht.1]]
  refine Eq.trans s ?_
  show f_X0_headingTo_7 _ _ _ _ _ = _
  have hb := pv_bT_b hv (t := t) (Nat.le_refl (v.1 0))
  rw [e_X0_headingTo_7]
  simp (disch := omega) only [xI_le, xI_lt, xI_eq, xI_0, xI_ib, if_pos, if_neg, if_true, if_false, xI_cl, Int.toNat_natCast, iI_m, iI_a, iI_s, iI_1, xI_n, Option.bind_some, Int.natCast_add, Int.natCast_one, xI_zb, if_bI0, if_bI1, xI_rn, xI_ti, R.1, k_floorMod (a := pv_bT v t (v.1 0)) (by omega) (by omega)]
theorem pv_tW_b {v : pv_T} (hv : pv_ok v) : 0 ≤ pv_wT v ∧ pv_wT v ≤ 14400 := pv_tA_b hv (Nat.le_refl _)
theorem pv_wP_b {v : pv_T} (hv : pv_ok v) : 0 ≤ pv_wP v ∧ pv_wP v ≤ 2865600 := pv_pA_b hv (Nat.le_refl _)
theorem pv_bA_b {v : pv_T} (hv : pv_ok v) {n : Nat} (h : n ≤ v.1 0) : -14400 ≤ pv_bA v n ∧ pv_bA v n ≤ 14400 := by
  have h1 := sI_b (f := fun i => if v.2 3 i = 0 then 10 * v.2 2 i else - (10 * v.2 2 i)) (n := n) (lo := -1800) (hi := 1800) (fun i hi => by
    have q := hv.2.1 i (by omega)
    show -1800 ≤ (if v.2 3 i = 0 then 10 * v.2 2 i else - (10 * v.2 2 i)) ∧ (if v.2 3 i = 0 then 10 * v.2 2 i else - (10 * v.2 2 i)) ≤ 1800
    split <;> omega)
  have h2 := hv.1.1
  unfold pv_bA
  omega
theorem pv_gB_b {v : pv_T} (hv : pv_ok v) : ∀ {n : Nat}, n ≤ v.1 0 → 0 ≤ pv_gB v n ∧ pv_gB v n ≤ 14400
  | 0, _ => ⟨Int.le_refl _, by show (0 : Int) ≤ 14400; omega⟩
  | n + 1, h => by
    have h1 := pv_gB_b hv (n := n) (by omega)
    have h2 := pv_bA_b hv h
    show 0 ≤ (if pv_gB v n < pv_bA v (n + 1) then pv_bA v (n + 1) else pv_gB v n) ∧ (if pv_gB v n < pv_bA v (n + 1) then pv_bA v (n + 1) else pv_gB v n) ≤ 14400
    split <;> omega