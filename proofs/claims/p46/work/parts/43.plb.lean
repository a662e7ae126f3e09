/-! letters, rooms: what they are -/
def pv_ct (v : pv_T) (j : Nat) : Int := (2 * j + 1) * pv_wT v / (2 * v.1 1)
def pv_cp (v : pv_T) (j : Nat) : Int := pv_pT v (pv_ct v j) (v.1 0)
def pv_w (v : pv_T) (j : Nat) : Int := v.2 8 (v.2 5 j).toNat
def pv_le (v : pv_T) (j : Nat) : Int := pv_cp v j - 500 * pv_w v j
def pv_re (v : pv_T) (j : Nat) : Int := pv_cp v j + 500 * pv_w v j
def pv_fr (v : pv_T) : Nat → Int
  | 0 => 0
  | i + 1 => pv_re v i
def pv_rm (v : pv_T) (i : Nat) : Int := (if i < v.1 1 then pv_le v i else pv_wP v) - pv_fr v i
/-- how many below n hold p -/
def cN (p : Nat → Bool) : Nat → Nat
  | 0 => 0
  | n + 1 => if p n = true then cN p n + 1 else cN p n
theorem cN_t {p : Nat → Bool} {n : Nat} (h : p n = true) : cN p (n + 1) = cN p n + 1 := if_pos h
theorem cN_f {p : Nat → Bool} {n : Nat} (h : p n = false) : cN p (n + 1) = cN p n := if_neg (by rw [h]; decide)
theorem cN_le (p : Nat → Bool) (n : Nat) : cN p n ≤ n := by
  induction n with
  | zero => exact Nat.le_refl _
  | succ n ih => unfold cN; split <;> omega
theorem pv_ct_b {v : pv_T} (hv : pv_ok v) {j : Nat} (h : j < v.1 1) : 0 ≤ pv_ct v j ∧ pv_ct v j ≤ pv_wT v ∧ 0 ≤ (2 * (j : Int) + 1) * pv_wT v ∧ (2 * (j : Int) + 1) * pv_wT v ≤ 600000 := by
  have h1 := pv_tW_b hv
  have h2 := hv.1.2.1
  have a0 : 0 ≤ (2 * (j : Int) + 1) * pv_wT v := Int.mul_nonneg (by omega) h1.1
  have a1 : (2 * (j : Int) + 1) * pv_wT v ≤ (2 * v.1 1) * pv_wT v := Int.mul_le_mul_of_nonneg_right (by omega) h1.1
  have a2 : (2 * (j : Int) + 1) * pv_wT v ≤ 41 * pv_wT v := Int.mul_le_mul_of_nonneg_right (by omega) h1.1
  have hp : (0 : Int) < 2 * v.1 1 := by omega
  refine ⟨Int.ediv_nonneg a0 (by omega), ?_, a0, by omega⟩
  unfold pv_ct
  have := Int.ediv_le_ediv hp a1
  rw [Int.mul_ediv_cancel_left _ (by omega)] at this
  exact this
theorem pv_w_b {v : pv_T} (hv : pv_ok v) {j : Nat} (h : j < v.1 1) : 1 ≤ pv_w v j ∧ pv_w v j ≤ 99 := by
  have h1 := hv.2.2.1 j h
  exact hv.2.2.2.1 (v.2 5 j).toNat (by omega)
theorem pv_cp_b {v : pv_T} (hv : pv_ok v) (j : Nat) : 0 ≤ pv_cp v j ∧ pv_cp v j ≤ 2865600 := pv_pT_b hv (Nat.le_refl _)
theorem pv_re_b {v : pv_T} (hv : pv_ok v) {j : Nat} (h : j < v.1 1) : 0 ≤ pv_re v j ∧ pv_re v j ≤ 2915600 := by
  have h1 := pv_cp_b hv j
  have h2 := pv_w_b hv h
  unfold pv_re
  omega
theorem pv_le_b {v : pv_T} (hv : pv_ok v) {j : Nat} (h : j < v.1 1) : -50000 ≤ pv_le v j ∧ pv_le v j ≤ 2865600 := by
  have h1 := pv_cp_b hv j
  have h2 := pv_w_b hv h
  unfold pv_le
  omega
theorem pv_rm_b {v : pv_T} (hv : pv_ok v) {i : Nat} (h : i ≤ v.1 1) : -3000000 ≤ pv_rm v i ∧ pv_rm v i ≤ 3000000 := by
  have h1 := pv_wP_b hv
  have h3 : 0 ≤ pv_fr v i ∧ pv_fr v i ≤ 2915600 := by
    cases i with
    | zero => exact ⟨Int.le_refl _, by show (0 : Int) ≤ 2915600; omega⟩
    | succ i => exact pv_re_b hv (by omega)
  unfold pv_rm
  split
  · next hi =>
    have h2 := pv_le_b hv hi
    omega
  · omega
section PLB
variable {h : am_H} {k : Nat} {v : pv_T}
theorem k_partsOf (hv : pv_ok v) (R : cl_na h k v) {j : Nat} (hj : j < v.1 1) : f_X4_partsOf k (iI j) h = some (iI (1000 * pv_w v j)) := by
  have h8 := hv.1
  have h1 := hv.2.2.1 j hj
  unfold f_X4_partsOf
  simp (disch := omega) only [xI_le, xI_lt, xI_eq, xI_0, xI_ib, if_pos, if_neg, if_true, if_false, xI_cl, Int.toNat_natCast, iI_m, iI_a, iI_s, iI_1, xI_n, Option.bind_some, Int.natCast_add, Int.natCast_one, xI_zb, if_bI0, if_bI1, xI_rn, xI_ti, (R.2.1 j hj).1, R.2.2 (v.2 5 j).toNat (by omega)]
  rfl
theorem k_strokesOf (hv : pv_ok v) (R : cl_na h k v) {j : Nat} (hj : j < v.1 1) : f_X4_strokesOf k (iI j) h = some (iI (1 + v.2 5 j % 4)) := by
  have h8 := hv.1
  have h1 := hv.2.2.1 j hj
  unfold f_X4_strokesOf
  simp (disch := omega) only [xI_le, xI_lt, xI_eq, xI_0, xI_ib, if_pos, if_neg, if_true, if_false, xI_cl, Int.toNat_natCast, iI_m, iI_a, iI_s, iI_1, xI_n, Option.bind_some, Int.natCast_add, Int.natCast_one, xI_zb, if_bI0, if_bI1, xI_rn, xI_ti, (R.2.1 j hj).1]
theorem k_engravedLetters (hv : pv_ok v) (R : cl_na h k v) : f_X4_engravedLetters k h = some (iI (cN (fun j => decide (v.2 6 j = 1)) (v.1 1))) := by
  have h8 := hv.1
  have s := ch_to (fun i : Nat => f_X4_engravedLetters_4 k (iI (cN (fun j => decide (v.2 6 j = 1)) i)) (iI i) h) (Nat.zero_le (v.1 1)) (fun i _ hi => by
    show f_X4_engravedLetters_4 _ _ _ _ = f_X4_engravedLetters_4 _ _ _ _
    have h1 := hv.2.2.1 i hi
    rw [e_X4_engravedLetters_4]
    by_cases c : v.2 6 i = 1
    · rw [cN_t (by simp [c])]
      simp (disch := omega) only [xI_le, xI_lt, xI_eq, xI_0, xI_ib, if_pos, if_neg, if_true, if_false, xI_cl, Int.toNat_natCast, iI_m, iI_a, iI_s, iI_1, xI_n, Option.bind_some, Int.natCast_add, Int.natCast_one, xI_zb, if_bI0, if_bI1, xI_rn, xI_ti, R.1, (R.2.1 i hi).2.1]
    · rw [cN_f (by simp [c])]
      simp (disch := omega) only [xI_le, xI_lt, xI_eq, xI_0, xI_ib, if_pos, if_neg, if_true, if_false, xI_cl, Int.toNat_natCast, iI_m, iI_a, iI_s, iI_1, xI_n, Option.bind_some, Int.natCast_add, Int.natCast_one, xI_zb, if_bI0, if_bI1, xI_rn, xI_ti, R.1, (R.2.1 i hi).2.1])
  unfold f_X4_engravedLetters
  refine Eq.trans s ?_
  show f_X4_engravedLetters_4 _ _ _ _ = _
  rw [e_X4_engravedLetters_4]
  simp (disch := omega) only [xI_le, xI_lt, xI_eq, xI_0, xI_ib, if_pos, if_neg, if_true, if_false, xI_cl, Int.toNat_natCast, iI_m, iI_a, iI_s, iI_1, xI_n, Option.bind_some, Int.natCast_add, Int.natCast_one, xI_zb, if_bI0, if_bI1, xI_rn, xI_ti, R.1]
theorem k_countOf (hv : pv_ok v) (R : cl_sc h k v) {l : Int} (hl : -2147483648 ≤ l ∧ l < 2147483648) : f_X7_countOf k (iI l) h = some (iI (cN (fun j => decide (v.2 12 j = l)) (v.1 3))) := by
  have h8 := hv.1
  have s := ch_to (fun i : Nat => f_X7_countOf_4 k (iI l) (iI (cN (fun j => decide (v.2 12 j = l)) i)) (iI i) h) (Nat.zero_le (v.1 3)) (fun i _ hi => by
    show f_X7_countOf_4 _ _ _ _ _ = f_X7_countOf_4 _ _ _ _ _
    have h1 := hv.2.2.2.2.2.1 i hi
    rw [e_X7_countOf_4]
    by_cases c : v.2 12 i = l
    · rw [cN_t (by simp [c])]
      simp (disch := omega) only [xI_le, xI_lt, xI_eq, xI_0, xI_ib, if_pos, if_neg, if_true, if_false, xI_cl, Int.toNat_natCast, iI_m, iI_a, iI_s, iI_1, xI_n, Option.bind_some, Int.natCast_add, Int.natCast_one, xI_zb, if_bI0, if_bI1, xI_rn, xI_ti, R.1, (R.2 i hi).1]
    · rw [cN_f (by simp [c])]
      simp (disch := omega) only [xI_le, xI_lt, xI_eq, xI_0, xI_ib, if_pos, if_neg, if_true, if_false, xI_cl, Int.toNat_natCast, iI_m, iI_a, iI_s, iI_1, xI_n, Option.bind_some, Int.natCast_add, Int.natCast_one, xI_zb, if_bI0, if_bI1, xI_rn, xI_ti, R.1, (R.2 i hi).1])
  unfold f_X7_countOf
  refine Eq.trans s ?_
  show f_X7_countOf_4 _ _ _ _ _ = _
  rw [e_X7_countOf_4]
  simp (disch := omega) only [xI_le, xI_lt, xI_eq, xI_0, xI_ib, if_pos, if_neg, if_true, if_false, xI_cl, Int.toNat_natCast, iI_m, iI_a, iI_s, iI_1, xI_n, Option.bind_some, Int.natCast_add, Int.natCast_one, xI_zb, if_bI0, if_bI1, xI_rn, xI_ti, R.1]
theorem k_nameByte (hv : pv_ok v) (R : cl_ki h k v) {q : Nat} (hq : q < v.1 2) {i : Int} (hi : -2147483648 ≤ i ∧ i < 2147483648) : f_X2_nameByte k (iI q) (iI i) h = some (iI (if 0 ≤ i ∧ i ≤ 7 then v.2 14 (8 * q + i.toNat) else 0)) := by
  have h8 := hv.1
  unfold f_X2_nameByte
  simp (disch := omega) only [xI_le, xI_lt, xI_eq, xI_0, xI_ib, if_pos, if_neg, if_true, if_false, xI_cl, Int.toNat_natCast, iI_m, iI_a, iI_s, iI_1, xI_n, Option.bind_some, Int.natCast_add, Int.natCast_one, xI_zb, if_bI0, if_bI1, xI_rn, xI_ti, k_isWithin (n := i) (a := 0) (b := 7) (by omega) (by omega) (by omega)]
  split
  · next c =>
    have e : ((q : Int) * 8 + i).toNat = 8 * q + i.toNat := by omega
    simp (disch := omega) only [xI_le, xI_lt, xI_eq, xI_0, xI_ib, if_pos, if_neg, if_true, if_false, xI_cl, Int.toNat_natCast, iI_m, iI_a, iI_s, iI_1, xI_n, Option.bind_some, Int.natCast_add, Int.natCast_one, xI_zb, if_bI0, if_bI1, xI_rn, xI_ti, e, R.2.2 (8 * q + i.toNat) (by omega)]
  · rfl
theorem k_hasLetter (hv : pv_ok v) (R : cl_na h k v) {i : Int} (hi : -2147483648 ≤ i ∧ i < 2147483648) : f_X5_hasLetter k (iI i) h = some (iI (bI (0 ≤ i ∧ i ≤ (v.1 1 : Int) - 1))) := by
  have h8 := hv.1
  unfold f_X5_hasLetter
  simp (disch := omega) only [xI_le, xI_lt, xI_eq, xI_0, xI_ib, if_pos, if_neg, if_true, if_false, xI_cl, Int.toNat_natCast, iI_m, iI_a, iI_s, iI_1, xI_n, Option.bind_some, Int.natCast_add, Int.natCast_one, xI_zb, if_bI0, if_bI1, xI_rn, xI_ti, R.1, k_isWithin (n := i) (a := 0) (b := (v.1 1 : Int) - 1) (by omega) (by omega) (by omega)]
theorem k_hasArc (hv : pv_ok v) (R : cl_cu h k v) {i : Int} (hi : -2147483648 ≤ i ∧ i < 2147483648) : f_X5_hasArc k (iI i) h = some (iI (bI (0 ≤ i ∧ i ≤ (v.1 0 : Int) - 1))) := by
  have h8 := hv.1
  unfold f_X5_hasArc
  simp (disch := omega) only [xI_le, xI_lt, xI_eq, xI_0, xI_ib, if_pos, if_neg, if_true, if_false, xI_cl, Int.toNat_natCast, iI_m, iI_a, iI_s, iI_1, xI_n, Option.bind_some, Int.natCast_add, Int.natCast_one, xI_zb, if_bI0, if_bI1, xI_rn, xI_ti, R.1, k_isWithin (n := i) (a := 0) (b := (v.1 0 : Int) - 1) (by omega) (by omega) (by omega)]
theorem k_hasRoom (hv : pv_ok v) (R : cl_na h k v) {i : Int} (hi : -2147483648 ≤ i ∧ i < 2147483648) : f_X5_hasRoom k (iI i) h = some (iI (bI (0 ≤ i ∧ i ≤ (v.1 1 : Int)))) := by
  have h8 := hv.1
  unfold f_X5_hasRoom
  simp (disch := omega) only [xI_le, xI_lt, xI_eq, xI_0, xI_ib, if_pos, if_neg, if_true, if_false, xI_cl, Int.toNat_natCast, iI_m, iI_a, iI_s, iI_1, xI_n, Option.bind_some, Int.natCast_add, Int.natCast_one, xI_zb, if_bI0, if_bI1, xI_rn, xI_ti, R.1, k_isWithin (n := i) (a := 0) (b := (v.1 1 : Int)) (by omega) (by omega) (by omega)]
theorem k_hasKind (hv : pv_ok v) (R : cl_ki h k v) {i : Int} (hi : -2147483648 ≤ i ∧ i < 2147483648) : f_X5_hasKind k (iI i) h = some (iI (bI (0 ≤ i ∧ i ≤ (v.1 2 : Int) - 1))) := by
  have h8 := hv.1
  unfold f_X5_hasKind
  simp (disch := omega) only [xI_le, xI_lt, xI_eq, xI_0, xI_ib, if_pos, if_neg, if_true, if_false, xI_cl, Int.toNat_natCast, iI_m, iI_a, iI_s, iI_1, xI_n, Option.bind_some, Int.natCast_add, Int.natCast_one, xI_zb, if_bI0, if_bI1, xI_rn, xI_ti, R.1, k_isWithin (n := i) (a := 0) (b := (v.1 2 : Int) - 1) (by omega) (by omega) (by omega)]
theorem k_hasScratch (hv : pv_ok v) (R : cl_sc h k v) {i : Int} (hi : -2147483648 ≤ i ∧ i < 2147483648) : f_X5_hasScratch k (iI i) h = some (iI (bI (0 ≤ i ∧ i ≤ (v.1 3 : Int) - 1))) := by
  have h8 := hv.1
  unfold f_X5_hasScratch
  simp (disch := omega) only [xI_le, xI_lt, xI_eq, xI_0, xI_ib, if_pos, if_neg, if_true, if_false, xI_cl, Int.toNat_natCast, iI_m, iI_a, iI_s, iI_1, xI_n, Option.bind_some, Int.natCast_add, Int.natCast_one, xI_zb, if_bI0, if_bI1, xI_rn, xI_ti, R.1, k_isWithin (n := i) (a := 0) (b := (v.1 3 : Int) - 1) (by omega) (by omega) (by omega)]
theorem k_centreTurn (hv : pv_ok v) (Rc : cl_cu h k v) (R : cl_na h k v) {j : Nat} (hj : j < v.1 1) : f_X5_centreTurn k (iI j) h = some (iI (pv_ct v j)) := by
  have h8 := hv.1
  have hb := pv_ct_b hv hj
  unfold f_X5_centreTurn
  simp (disch := omega) only [xI_le, xI_lt, xI_eq, xI_0, xI_ib, if_pos, if_neg, if_true, if_false, xI_cl, Int.toNat_natCast, iI_m, iI_a, iI_s, iI_1, xI_n, Option.bind_some, Int.natCast_add, Int.natCast_one, xI_zb, if_bI0, if_bI1, xI_rn, xI_ti, R.1, Rc.1, k_turnAhead hv Rc (Nat.le_refl _)]
  rw [show pv_tA v (v.1 0) = pv_wT v from rfl]
  simp (disch := omega) only [xI_le, xI_lt, xI_eq, xI_0, xI_ib, if_pos, if_neg, if_true, if_false, xI_cl, Int.toNat_natCast, iI_m, iI_a, iI_s, iI_1, xI_n, Option.bind_some, Int.natCast_add, Int.natCast_one, xI_zb, if_bI0, if_bI1, xI_rn, xI_ti, xI_dn]
  rfl
theorem k_centreParts (hv : pv_ok v) (Rc : cl_cu h k v) (R : cl_na h k v) {j : Nat} (hj : j < v.1 1) : f_X5_centreParts k (iI j) h = some (iI (pv_cp v j)) := by
  have hb := pv_ct_b hv hj
  have hw := pv_tW_b hv
  unfold f_X5_centreParts
  simp (disch := omega) only [xI_le, xI_lt, xI_eq, xI_0, xI_ib, if_pos, if_neg, if_true, if_false, xI_cl, Int.toNat_natCast, iI_m, iI_a, iI_s, iI_1, xI_n, Option.bind_some, Int.natCast_add, Int.natCast_one, xI_zb, if_bI0, if_bI1, xI_rn, xI_ti, k_centreTurn hv Rc R hj, k_partsTo hv Rc (t := pv_ct v j) (by omega)]
  rfl
theorem k_leftEdge (hv : pv_ok v) (Rc : cl_cu h k v) (R : cl_na h k v) {j : Nat} (hj : j < v.1 1) : f_X5_leftEdge k (iI j) h = some (iI (pv_le v j)) := by
  have hw := pv_w_b hv hj
  unfold f_X5_leftEdge
  simp (disch := omega) only [xI_le, xI_lt, xI_eq, xI_0, xI_ib, if_pos, if_neg, if_true, if_false, xI_cl, Int.toNat_natCast, iI_m, iI_a, iI_s, iI_1, xI_n, Option.bind_some, Int.natCast_add, Int.natCast_one, xI_zb, if_bI0, if_bI1, xI_rn, xI_ti, k_centreParts hv Rc R hj, k_partsOf hv R hj, xI_dn]
  unfold pv_le
  rw [show 1000 * pv_w v j / 2 = 500 * pv_w v j by omega]
theorem k_rightEdge (hv : pv_ok v) (Rc : cl_cu h k v) (R : cl_na h k v) {j : Nat} (hj : j < v.1 1) : f_X5_rightEdge k (iI j) h = some (iI (pv_re v j)) := by
  have hw := pv_w_b hv hj
  unfold f_X5_rightEdge
  simp (disch := omega) only [xI_le, xI_lt, xI_eq, xI_0, xI_ib, if_pos, if_neg, if_true, if_false, xI_cl, Int.toNat_natCast, iI_m, iI_a, iI_s, iI_1, xI_n, Option.bind_some, Int.natCast_add, Int.natCast_one, xI_zb, if_bI0, if_bI1, xI_rn, xI_ti, k_centreParts hv Rc R hj, k_partsOf hv R hj, xI_dn]
  unfold pv_re
  rw [show 1000 * pv_w v j / 2 = 500 * pv_w v j by omega]
theorem k_arcUnder (hv : pv_ok v) (Rc : cl_cu h k v) (R : cl_na h k v) {j : Nat} (hj : j < v.1 1) : f_X5_arcUnder k (iI j) h = some (iI (pv_ar v (pv_ct v j))) := by
  have hb := pv_ct_b hv hj
  have hw := pv_tW_b hv
  unfold f_X5_arcUnder
  simp (disch := omega) only [xI_le, xI_lt, xI_eq, xI_0, xI_ib, if_pos, if_neg, if_true, if_false, xI_cl, Int.toNat_natCast, iI_m, iI_a, iI_s, iI_1, xI_n, Option.bind_some, Int.natCast_add, Int.natCast_one, xI_zb, if_bI0, if_bI1, xI_rn, xI_ti, k_centreTurn hv Rc R hj, k_arcAround hv Rc (t := pv_ct v j) (by omega)]
theorem k_hardnessUnder (hv : pv_ok v) (Rc : cl_cu h k v) (R : cl_na h k v) {j : Nat} (hj : j < v.1 1) : f_X5_hardnessUnder k (iI j) h = some (iI (pv_hd v (pv_ct v j))) := by
  have hb := pv_ct_b hv hj
  have hw := pv_tW_b hv
  unfold f_X5_hardnessUnder
  simp (disch := omega) only [xI_le, xI_lt, xI_eq, xI_0, xI_ib, if_pos, if_neg, if_true, if_false, xI_cl, Int.toNat_natCast, iI_m, iI_a, iI_s, iI_1, xI_n, Option.bind_some, Int.natCast_add, Int.natCast_one, xI_zb, if_bI0, if_bI1, xI_rn, xI_ti, k_centreTurn hv Rc R hj, k_hardnessAt hv Rc (t := pv_ct v j) (by omega)]
end PLB
