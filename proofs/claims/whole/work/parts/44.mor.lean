/-! the reference's row of numbers, and what it reads in it -/
def mo_rw (f : Nat → Int32) (v : pv_T) : Prop :=
  (f 0 = iI (v.1 0) ∧ f 1 = iI (v.1 1) ∧ f 2 = iI (v.1 2) ∧ f 3 = iI (v.2 0 0) ∧ f 4 = iI (v.2 0 1) ∧ f 5 = iI (v.2 0 2) ∧ f 6 = iI (v.2 0 3) ∧ f 7 = iI (v.2 0 4) ∧ f 8 = iI (v.1 3)) ∧
  (∀ i, i < v.1 0 → ∀ c, c < 4 → f (12 + 4 * i + c) = iI (v.2 (1 + c) i)) ∧
  (∀ i, i < v.1 1 → ∀ c, c < 3 → f (44 + 3 * i + c) = iI (v.2 (5 + c) i)) ∧
  (∀ i, i < 26 → f (104 + i) = iI (v.2 8 i)) ∧
  (∀ i, i < v.1 2 → ∀ c, c < 3 → f (130 + 3 * i + c) = iI (v.2 (9 + c) i)) ∧
  (∀ i, i < v.1 3 → ∀ c, c < 2 → f (148 + 2 * i + c) = iI (v.2 (12 + c) i))
theorem m_isIn {x y z : Int64} : f_X12_isIn x y z = some (iI (bI (y.toInt ≤ x.toInt ∧ x.toInt ≤ z.toInt))) := by
  unfold f_X12_isIn bI
  simp only [lg_lt, lg_gt]
  (repeat' split) <;> first | rfl | (exfalso; omega)
theorem m_truth1 : f_X12_truth (iI 1) = some (iI 1) := rfl
theorem m_truth0 : f_X12_truth (iI 0) = some (iI 0) := rfl
theorem m_truth {c : Prop} [Decidable c] : f_X12_truth (iI (bI c)) = some (iI (bI c)) := by
  by_cases h : c
  · rw [show bI c = 1 from if_pos h]; rfl
  · rw [show bI c = 0 from if_neg h]; rfl
theorem m_greater {a b : Int} (ha : -2147483648 ≤ a ∧ a < 2147483648) (hb : -2147483648 ≤ b ∧ b < 2147483648) : f_X12_greater (iI a) (iI b) = some (iI (if a < b then b else a)) := by
  unfold f_X12_greater
  simp (disch := omega) only [xI_le, xI_lt]
  (repeat' split) <;> first | rfl | (exfalso; omega) | (congr 2; omega)
theorem m_lesser {a b : Int} (ha : -2147483648 ≤ a ∧ a < 2147483648) (hb : -2147483648 ≤ b ∧ b < 2147483648) : f_X12_lesser (iI a) (iI b) = some (iI (if a ≤ b then a else b)) := by
  unfold f_X12_lesser
  simp (disch := omega) only [xI_le, xI_lt]
  (repeat' split) <;> first | rfl | (exfalso; omega) | (congr 2; omega)
/-- the reference's plate -/
abbrev mo_pl (h : am_H) (v : pv_T) : Prop := mo_rw (h.1 (.inl 0) 2) v
section MOR
variable {h : am_H} {v : pv_T}
theorem m_ofArc (hv : pv_ok v) (R : mo_pl h v) {i c : Nat} (hi : i < v.1 0) (hc : c < 4) : f_X12_ofArc (iI i) (iI c) h = some (iI (v.2 (1 + c) i)) := by
  have h8 := hv.1
  unfold f_X12_ofArc
  simp (disch := omega) only [xI_le, xI_lt, xI_eq, xI_0, xI_ib, if_pos, if_neg, if_true, if_false, xI_cl, Int.toNat_natCast, iI_m, iI_a, iI_s, iI_1, xI_n, Option.bind_some, Int.natCast_add, Int.natCast_one, xI_zb, if_bI0, if_bI1, xI_rn, xI_ti, show (12 + 4 * (i : Int) + (c : Int)).toNat = 12 + 4 * i + c from by omega, R.2.1 i hi c hc]
theorem m_ofLetter (hv : pv_ok v) (R : mo_pl h v) {i c : Nat} (hi : i < v.1 1) (hc : c < 3) : f_X12_ofLetter (iI i) (iI c) h = some (iI (v.2 (5 + c) i)) := by
  have h8 := hv.1
  unfold f_X12_ofLetter
  simp (disch := omega) only [xI_le, xI_lt, xI_eq, xI_0, xI_ib, if_pos, if_neg, if_true, if_false, xI_cl, Int.toNat_natCast, iI_m, iI_a, iI_s, iI_1, xI_n, Option.bind_some, Int.natCast_add, Int.natCast_one, xI_zb, if_bI0, if_bI1, xI_rn, xI_ti, show (44 + 3 * (i : Int) + (c : Int)).toNat = 44 + 3 * i + c from by omega, R.2.2.1 i hi c hc]
theorem m_ofKind (hv : pv_ok v) (R : mo_pl h v) {i c : Nat} (hi : i < v.1 2) (hc : c < 3) : f_X12_ofKind (iI i) (iI c) h = some (iI (v.2 (9 + c) i)) := by
  have h8 := hv.1
  unfold f_X12_ofKind
  simp (disch := omega) only [xI_le, xI_lt, xI_eq, xI_0, xI_ib, if_pos, if_neg, if_true, if_false, xI_cl, Int.toNat_natCast, iI_m, iI_a, iI_s, iI_1, xI_n, Option.bind_some, Int.natCast_add, Int.natCast_one, xI_zb, if_bI0, if_bI1, xI_rn, xI_ti, show (130 + 3 * (i : Int) + (c : Int)).toNat = 130 + 3 * i + c from by omega, R.2.2.2.2.1 i hi c hc]
theorem m_ofScratch (hv : pv_ok v) (R : mo_pl h v) {i c : Nat} (hi : i < v.1 3) (hc : c < 2) : f_X12_ofScratch (iI i) (iI c) h = some (iI (v.2 (12 + c) i)) := by
  have h8 := hv.1
  unfold f_X12_ofScratch
  simp (disch := omega) only [xI_le, xI_lt, xI_eq, xI_0, xI_ib, if_pos, if_neg, if_true, if_false, xI_cl, Int.toNat_natCast, iI_m, iI_a, iI_s, iI_1, xI_n, Option.bind_some, Int.natCast_add, Int.natCast_one, xI_zb, if_bI0, if_bI1, xI_rn, xI_ti, show (148 + 2 * (i : Int) + (c : Int)).toNat = 148 + 2 * i + c from by omega, R.2.2.2.2.2 i hi c hc]
theorem m_tenths (hv : pv_ok v) (R : mo_pl h v) {i : Nat} (hi : i < v.1 0) : f_X12_tenths (iI i) h = some (iI (10 * v.2 2 i)) := by
  unfold f_X12_tenths
  have e := m_ofArc hv R hi (c := 1) (by omega)
  simp (disch := omega) only [xI_le, xI_lt, xI_eq, xI_0, xI_ib, if_pos, if_neg, if_true, if_false, xI_cl, Int.toNat_natCast, iI_m, iI_a, iI_s, iI_1, xI_n, Option.bind_some, Int.natCast_add, Int.natCast_one, xI_zb, if_bI0, if_bI1, xI_rn, xI_ti, show iI 1 = iI ((1 : Nat) : Int) from rfl, e]
theorem m_turnBefore (hv : pv_ok v) (R : mo_pl h v) {n : Nat} (hn : n ≤ v.1 0) : f_X12_turnBefore (iI n) h = some (iI (pv_tA v n)) := by
  have h8 := hv.1
  have s := ch_to (fun i : Nat => f_X12_turnBefore_4 (iI n) (iI (pv_tA v i)) (iI i) h) (Nat.zero_le n) (fun i _ hi => by
    show f_X12_turnBefore_4 _ _ _ _ = f_X12_turnBefore_4 _ _ _ _
    rw [e_X12_turnBefore_4]
    simp (disch := omega) only [xI_le, xI_lt, xI_eq, xI_0, xI_ib, if_pos, if_neg, if_true, if_false, xI_cl, Int.toNat_natCast, iI_m, iI_a, iI_s, iI_1, xI_n, Option.bind_some, Int.natCast_add, Int.natCast_one, xI_zb, if_bI0, if_bI1, xI_rn, xI_ti, m_tenths hv R (i := i) (by omega), pv_tA_s])
  refine Eq.trans s ?_
  show f_X12_turnBefore_4 _ _ _ _ = _
  rw [e_X12_turnBefore_4]
  simp (disch := omega) only [xI_le, xI_lt, xI_eq, xI_0, xI_ib, if_pos, if_neg, if_true, if_false, xI_cl, Int.toNat_natCast, iI_m, iI_a, iI_s, iI_1, xI_n, Option.bind_some, Int.natCast_add, Int.natCast_one, xI_zb, if_bI0, if_bI1, xI_rn, xI_ti]
theorem m_wholeTurn (hv : pv_ok v) (R : mo_pl h v) : f_X12_wholeTurn h = some (iI (pv_wT v)) := by
  unfold f_X12_wholeTurn
  simp (disch := omega) only [xI_le, xI_lt, xI_eq, xI_0, xI_ib, if_pos, if_neg, if_true, if_false, xI_cl, Int.toNat_natCast, iI_m, iI_a, iI_s, iI_1, xI_n, Option.bind_some, Int.natCast_add, Int.natCast_one, xI_zb, if_bI0, if_bI1, xI_rn, xI_ti, Int.toNat_zero, R.1.1, m_turnBefore hv R (Nat.le_refl _)]
  rfl
theorem m_ofArc0 (hv : pv_ok v) (R : mo_pl h v) {i : Nat} (hi : i < v.1 0) : f_X12_ofArc (iI i) (iI 0) h = some (iI (v.2 1 i)) := m_ofArc hv R hi (c := 0) (by omega)
theorem m_ofArc2 (hv : pv_ok v) (R : mo_pl h v) {i : Nat} (hi : i < v.1 0) : f_X12_ofArc (iI i) (iI 2) h = some (iI (v.2 3 i)) := m_ofArc hv R hi (c := 2) (by omega)
theorem m_ofArc3 (hv : pv_ok v) (R : mo_pl h v) {i : Nat} (hi : i < v.1 0) : f_X12_ofArc (iI i) (iI 3) h = some (iI (v.2 4 i)) := m_ofArc hv R hi (c := 3) (by omega)
theorem m_partsBefore (hv : pv_ok v) (R : mo_pl h v) {n : Nat} (hn : n ≤ v.1 0) : f_X12_partsBefore (iI n) h = some (iI (pv_pA v n)) := by
  have h8 := hv.1
  have s := ch_to (fun i : Nat => f_X12_partsBefore_4 (iI n) (iI (pv_pA v i)) (iI i) h) (Nat.zero_le n) (fun i _ hi => by
    show f_X12_partsBefore_4 _ _ _ _ = f_X12_partsBefore_4 _ _ _ _
    rw [e_X12_partsBefore_4]
    simp (disch := omega) only [xI_le, xI_lt, xI_eq, xI_0, xI_ib, if_pos, if_neg, if_true, if_false, xI_cl, Int.toNat_natCast, iI_m, iI_a, iI_s, iI_1, xI_n, Option.bind_some, Int.natCast_add, Int.natCast_one, xI_zb, if_bI0, if_bI1, xI_rn, xI_ti, m_tenths hv R (i := i) (by omega), m_ofArc0 hv R (i := i) (by omega), pv_pA_s])
  refine Eq.trans s ?_
  show f_X12_partsBefore_4 _ _ _ _ = _
  rw [e_X12_partsBefore_4]
  simp (disch := omega) only [xI_le, xI_lt, xI_eq, xI_0, xI_ib, if_pos, if_neg, if_true, if_false, xI_cl, Int.toNat_natCast, iI_m, iI_a, iI_s, iI_1, xI_n, Option.bind_some, Int.natCast_add, Int.natCast_one, xI_zb, if_bI0, if_bI1, xI_rn, xI_ti]
theorem m_wholeParts (hv : pv_ok v) (R : mo_pl h v) : f_X12_wholeParts h = some (iI (pv_wP v)) := by
  unfold f_X12_wholeParts
  simp (disch := omega) only [xI_le, xI_lt, xI_eq, xI_0, xI_ib, if_pos, if_neg, if_true, if_false, xI_cl, Int.toNat_natCast, iI_m, iI_a, iI_s, iI_1, xI_n, Option.bind_some, Int.natCast_add, Int.natCast_one, xI_zb, if_bI0, if_bI1, xI_rn, xI_ti, Int.toNat_zero, R.1.1, m_partsBefore hv R (Nat.le_refl _)]
  rfl
theorem m_arcOf (hv : pv_ok v) (R : mo_pl h v) {t : Int} (ht : -2147483648 ≤ t ∧ t < 2147483648) : f_X12_arcOf (iI t) h = some (iI (pv_ar v t)) := by
  have h8 := hv.1.1
  have hm := pv_fst_le (fun i => decide (t < pv_tA v (i + 1))) (v.1 0) 0
  have hat := pv_fst_at (fun i => decide (t < pv_tA v (i + 1))) (v.1 0) 0
  have hlt := pv_fst_lt (fun i => decide (t < pv_tA v (i + 1))) (v.1 0) 0
  unfold pv_ar
  generalize pv_fst (fun i => decide (t < pv_tA v (i + 1))) (v.1 0) 0 = m at hm hat hlt ⊢
  have s := ch_to (fun i : Nat => f_X12_arcOf_4 (iI t) (iI (pv_tA v i)) (iI i) h) (Nat.zero_le m) (fun i _ hi => by
    show f_X12_arcOf_4 _ _ _ _ = f_X12_arcOf_4 _ _ _ _
    have hb := pv_tA_b hv (n := i + 1) (by omega)
    have hc := hlt i (by omega) hi
    simp only [decide_eq_false_iff_not] at hc
    rw [pv_tA_s] at hb hc
    rw [e_X12_arcOf_4]
    simp (disch := omega) only [xI_le, xI_lt, xI_eq, xI_0, xI_ib, if_pos, if_neg, if_true, if_false, xI_cl, Int.toNat_natCast, iI_m, iI_a, iI_s, iI_1, xI_n, Option.bind_some, Int.natCast_add, Int.natCast_one, xI_zb, if_bI0, if_bI1, xI_rn, xI_ti, Int.toNat_zero, R.1.1, m_tenths hv R (i := i) (by omega), pv_tA_s])
  refine Eq.trans s ?_
  show f_X12_arcOf_4 _ _ _ _ = _
  rw [e_X12_arcOf_4]
  by_cases hmn : m < v.1 0
  · have hb := pv_tA_b hv (n := m + 1) (by omega)
    have hc := hat (by omega)
    simp only [decide_eq_true_eq] at hc
    rw [pv_tA_s] at hb hc
    simp (disch := omega) only [xI_le, xI_lt, xI_eq, xI_0, xI_ib, if_pos, if_neg, if_true, if_false, xI_cl, Int.toNat_natCast, iI_m, iI_a, iI_s, iI_1, xI_n, Option.bind_some, Int.natCast_add, Int.natCast_one, xI_zb, if_bI0, if_bI1, xI_rn, xI_ti, Int.toNat_zero, R.1.1, m_tenths hv R (i := m) (by omega)]
  · simp (disch := omega) only [xI_le, xI_lt, xI_eq, xI_0, xI_ib, if_pos, if_neg, if_true, if_false, xI_cl, Int.toNat_natCast, iI_m, iI_a, iI_s, iI_1, xI_n, Option.bind_some, Int.natCast_add, Int.natCast_one, xI_zb, if_bI0, if_bI1, xI_rn, xI_ti, Int.toNat_zero, R.1.1]
/-- the arc of a turn, by its ends -/
theorem pv_ar_at {t : Int} (ht : 0 ≤ t) (hn : 0 < v.1 0) : ∃ a : Nat, pv_ar v t = a ∧ a < v.1 0 ∧ pv_tA v a ≤ t ∧ (t < pv_tA v (a + 1) ∨ a + 1 = v.1 0) ∧ ∀ i, i < a → pv_tA v (i + 1) ≤ t := by
  have hm := pv_fst_le (fun i => decide (t < pv_tA v (i + 1))) (v.1 0) 0
  have hat := pv_fst_at (fun i => decide (t < pv_tA v (i + 1))) (v.1 0) 0
  have hlt := pv_fst_lt (fun i => decide (t < pv_tA v (i + 1))) (v.1 0) 0
  unfold pv_ar
  generalize pv_fst (fun i => decide (t < pv_tA v (i + 1))) (v.1 0) 0 = m at hm hat hlt ⊢
  simp only [decide_eq_true_eq, decide_eq_false_iff_not] at hat hlt
  have key : ∀ i, i < m → pv_tA v (i + 1) ≤ t := fun i hi => by have := hlt i (by omega) hi; omega
  have k0 : ∀ i, i ≤ m → pv_tA v i ≤ t := fun i hi => by
    cases i with
    | zero => exact ht
    | succ i => exact key i (by omega)
  by_cases hmn : m < v.1 0
  · rw [if_pos hmn]
    exact ⟨m, rfl, hmn, k0 m (Nat.le_refl _), Or.inl (hat (by omega)), key⟩
  · rw [if_neg hmn]
    exact ⟨v.1 0 - 1, by omega, by omega, k0 _ (by omega), Or.inr (by omega), fun i hi => key i (by omega)⟩
theorem pv_tA_mono (hv : pv_ok v) {i j : Nat} (h : i ≤ j) (hj : j ≤ v.1 0) : pv_tA v i ≤ pv_tA v j := sI_mono h (fun q hq => by have := hv.2.1 q (by omega); omega)
/-- parts up to a turn, arc by arc, are those of the arcs ahead and of its own -/
theorem pv_pT_at (hv : pv_ok v) {t : Int} (ht : 0 ≤ t) (htw : t ≤ pv_wT v) {a : Nat} (ha : a < v.1 0) (h1 : pv_tA v a ≤ t) (h2 : t < pv_tA v (a + 1) ∨ a + 1 = v.1 0) : pv_pT v t (v.1 0) = pv_pA v a + v.2 1 a * (t - pv_tA v a) := by
  have e1 : ∀ n, n ≤ a → pv_pT v t n = pv_pA v n := by
    intro n
    induction n with
    | zero => intro _; rfl
    | succ n ih =>
      intro hn
      have hb := pv_tA_mono hv (i := n + 1) (j := a) hn (by omega)
      rw [pv_tA_s] at hb
      have hc := hv.2.1 n (by omega)
      show pv_pT v t n + v.2 1 n * pv_ps v t n = pv_pA v n + v.2 1 n * (10 * v.2 2 n)
      rw [ih (by omega)]
      unfold pv_ps
      rw [if_neg (by omega)]
      by_cases q : t - pv_tA v n ≤ 10 * v.2 2 n
      · rw [if_pos q, show t - pv_tA v n = 10 * v.2 2 n by omega]
      · rw [if_neg q]
  have e2 : pv_pT v t (a + 1) = pv_pA v a + v.2 1 a * (t - pv_tA v a) := by
    show pv_pT v t a + v.2 1 a * pv_ps v t a = _
    rw [e1 a (Nat.le_refl _)]
    have hle : t ≤ pv_tA v (a + 1) := by
      rcases h2 with h2 | h2
      · omega
      · rw [h2]; exact htw
    rw [pv_tA_s] at hle
    unfold pv_ps
    rw [if_neg (by omega), if_pos (by omega)]
  have e3 : ∀ n, a + 1 ≤ n → n ≤ v.1 0 → pv_pT v t n = pv_pT v t (a + 1) := by
    intro n
    induction n with
    | zero => intro q _; omega
    | succ n ih =>
      intro q1 q2
      by_cases e : n = a
      · subst e; rfl
      · rw [← ih (by omega) (by omega)]
        show pv_pT v t n + v.2 1 n * pv_ps v t n = pv_pT v t n
        have hb : t < pv_tA v n := by
          rcases h2 with h2 | h2
          · have := pv_tA_mono hv (i := a + 1) (j := n) (by omega) (by omega)
            omega
          · omega
        unfold pv_ps
        rw [if_pos hb, Int.mul_zero, Int.add_zero]
  rw [e3 _ (by omega) (Nat.le_refl _), e2]
theorem m_partsOf (hv : pv_ok v) (R : mo_pl h v) {t : Int} (ht : 0 ≤ t) (htw : t ≤ pv_wT v) : f_X12_partsOf (iI t) h = some (iI (pv_pT v t (v.1 0))) := by
  have h8 := hv.1.1
  have hw := pv_tW_b hv
  have hb := pv_ar_b v t
  unfold f_X12_partsOf
  by_cases hn : 0 < v.1 0
  · obtain ⟨a, ha, hlt, h1, h2, -⟩ := pv_ar_at (v := v) ht hn
    simp (disch := omega) only [xI_le, xI_lt, xI_eq, xI_0, xI_ib, if_pos, if_neg, if_true, if_false, xI_cl, Int.toNat_natCast, iI_m, iI_a, iI_s, iI_1, xI_n, Option.bind_some, Int.natCast_add, Int.natCast_one, xI_zb, if_bI0, if_bI1, xI_rn, xI_ti, m_arcOf hv R (t := t) (by omega), ha, m_partsBefore hv R (n := a) (by omega), m_ofArc0 hv R hlt, m_turnBefore hv R (n := a) (by omega)]
    rw [pv_pT_at hv ht htw hlt h1 h2]
  · have e : v.1 0 = 0 := by omega
    have e2 : pv_ar v t = -1 := by omega
    rw [m_arcOf hv R (t := t) (by omega), e2, Option.bind_some, if_pos rfl, e]
    rfl
theorem m_bend (hv : pv_ok v) (R : mo_pl h v) {t : Int} (ht : 0 ≤ t ∧ t < 2147483648) : f_X12_bend (iI t) h = some (iI (pv_bT v t (v.1 0))) := by
  have h8 := hv.1.1
  have s := ch_to (fun i : Nat => f_X12_bend_7 (iI (pv_lf v t i)) (iI (pv_bT v t i)) (iI i) h) (Nat.zero_le (v.1 0)) (fun i _ hi => by
    show f_X12_bend_7 _ _ _ _ = f_X12_bend_7 _ _ _ _
    have hb := pv_lf_b hv ht.1 (i := i) (by omega)
    have hc := hv.2.1 i (by omega)
    rw [e_X12_bend_7]
    simp (disch := omega) only [xI_le, xI_lt, xI_eq, xI_0, xI_ib, if_pos, if_neg, if_true, if_false, xI_cl, Int.toNat_natCast, iI_m, iI_a, iI_s, iI_1, xI_n, Option.bind_some, Int.natCast_add, Int.natCast_one, xI_zb, if_bI0, if_bI1, xI_rn, xI_ti, Int.toNat_zero, R.1.1, m_tenths hv R hi, m_lesser (a := pv_lf v t i) (b := 10 * v.2 2 i) (by omega) (by omega), pv_lf_m (v := v) (t := t) (i := i) (by omega), m_ofArc2 hv R hi, e_X12_bend_50, pv_lf_s (v := v) (t := t) (i := i) (by omega)]
    show _ = f_X12_bend_7 _ (iI (pv_bT v t i + if v.2 3 i = 0 then pv_ps v t i else - pv_ps v t i)) _ h
    by_cases q : v.2 3 i = 0
    · rw [if_pos q, if_neg (by omega)]
    · rw [if_neg q, if_pos (by omega)])
  unfold f_X12_bend
  rw [show iI t = iI (pv_lf v t 0) by rw [pv_lf_0 ht.1]]
  refine Eq.trans s ?_
  show f_X12_bend_7 _ _ _ _ = _
  rw [e_X12_bend_7]
  simp (disch := omega) only [xI_le, xI_lt, xI_eq, xI_0, xI_ib, if_pos, if_neg, if_true, if_false, xI_cl, Int.toNat_natCast, iI_m, iI_a, iI_s, iI_1, xI_n, Option.bind_some, Int.natCast_add, Int.natCast_one, xI_zb, if_bI0, if_bI1, xI_rn, xI_ti, Int.toNat_zero, R.1.1]
theorem xI_tm {a : Int} (h1 : -100000 ≤ a) (h2 : a ≤ 100000) : iI a - iI a / iI 3600 * iI 3600 = iI (a.tmod 3600) := by
  rw [iI_d (by omega) (by omega) (by omega) (by omega) (by omega), iI_m, iI_s, Int.tmod_def, Int.mul_comm 3600]
theorem m_headingOf (hv : pv_ok v) (R : mo_pl h v) {t : Int} (ht : 0 ≤ t ∧ t < 2147483648) : f_X12_headingOf (iI t) h = some (iI (pv_bT v t (v.1 0) % 3600)) := by
  have hb := pv_bT_b hv (t := t) (Nat.le_refl (v.1 0))
  unfold f_X12_headingOf
  rw [m_bend hv R ht, Option.bind_some, if_neg (by decide), xI_tm (by omega) (by omega)]
  have ht0 : (pv_bT v t (v.1 0)).tmod 3600 = if 0 ≤ pv_bT v t (v.1 0) then pv_bT v t (v.1 0) % 3600 else -((-pv_bT v t (v.1 0)) % 3600) := by
    split
    · next q => exact Int.tmod_eq_emod_of_nonneg q
    · next q =>
      have e : (pv_bT v t (v.1 0)).tmod 3600 = -((-pv_bT v t (v.1 0)).tmod 3600) := by rw [Int.neg_tmod, Int.neg_neg]
      rw [e, Int.tmod_eq_emod_of_nonneg (by omega)]
  rw [ht0]
  generalize pv_bT v t (v.1 0) = b at hb ⊢
  by_cases q : 0 ≤ b
  · rw [if_pos q]
    simp (disch := omega) only [xI_le, xI_lt, xI_eq, xI_0, xI_ib, if_pos, if_neg, if_true, if_false, xI_cl, Int.toNat_natCast, iI_m, iI_a, iI_s, iI_1, xI_n, Option.bind_some, Int.natCast_add, Int.natCast_one, xI_zb, if_bI0, if_bI1, xI_rn, xI_ti]
  · rw [if_neg q]
    by_cases z : (-b) % 3600 = 0
    · rw [z, show b % 3600 = 0 by omega]
      rfl
    · rw [show b % 3600 = -(-b % 3600) + 3600 by omega]
      simp (disch := omega) only [xI_le, xI_lt, xI_eq, xI_0, xI_ib, if_pos, if_neg, if_true, if_false, xI_cl, Int.toNat_natCast, iI_m, iI_a, iI_s, iI_1, xI_n, Option.bind_some, Int.natCast_add, Int.natCast_one, xI_zb, if_bI0, if_bI1, xI_rn, xI_ti]
theorem m_centre (hv : pv_ok v) (R : mo_pl h v) {j : Nat} (hj : j < v.1 1) : f_X12_centre (iI j) h = some (iI (pv_ct v j)) := by
  have h8 := hv.1
  have hb := pv_ct_b hv hj
  unfold f_X12_centre
  simp (disch := omega) only [xI_le, xI_lt, xI_eq, xI_0, xI_ib, if_pos, if_neg, if_true, if_false, xI_cl, Int.toNat_natCast, iI_m, iI_a, iI_s, iI_1, xI_n, Option.bind_some, Int.natCast_add, Int.natCast_one, xI_zb, if_bI0, if_bI1, xI_rn, xI_ti, Int.toNat_one, R.1.2.1, m_wholeTurn hv R]
  simp (disch := omega) only [xI_le, xI_lt, xI_eq, xI_0, xI_ib, if_pos, if_neg, if_true, if_false, xI_cl, Int.toNat_natCast, iI_m, iI_a, iI_s, iI_1, xI_n, Option.bind_some, Int.natCast_add, Int.natCast_one, xI_zb, if_bI0, if_bI1, xI_rn, xI_ti, xI_dn]
  rfl
theorem m_ofL0 (hv : pv_ok v) (R : mo_pl h v) {i : Nat} (hi : i < v.1 1) : f_X12_ofLetter (iI i) (iI 0) h = some (iI (v.2 5 i)) := m_ofLetter hv R hi (c := 0) (by omega)
theorem m_ofL1 (hv : pv_ok v) (R : mo_pl h v) {i : Nat} (hi : i < v.1 1) : f_X12_ofLetter (iI i) (iI 1) h = some (iI (v.2 6 i)) := m_ofLetter hv R hi (c := 1) (by omega)
theorem m_ofL2 (hv : pv_ok v) (R : mo_pl h v) {i : Nat} (hi : i < v.1 1) : f_X12_ofLetter (iI i) (iI 2) h = some (iI (v.2 7 i)) := m_ofLetter hv R hi (c := 2) (by omega)
theorem m_ofS0 (hv : pv_ok v) (R : mo_pl h v) {i : Nat} (hi : i < v.1 3) : f_X12_ofScratch (iI i) (iI 0) h = some (iI (v.2 12 i)) := m_ofScratch hv R hi (c := 0) (by omega)
theorem m_ofS1 (hv : pv_ok v) (R : mo_pl h v) {i : Nat} (hi : i < v.1 3) : f_X12_ofScratch (iI i) (iI 1) h = some (iI (v.2 13 i)) := m_ofScratch hv R hi (c := 1) (by omega)
theorem m_widthOf (hv : pv_ok v) (R : mo_pl h v) {j : Nat} (hj : j < v.1 1) : f_X12_widthOf (iI j) h = some (iI (pv_w v j)) := by
  have h1 := hv.2.2.1 j hj
  unfold f_X12_widthOf
  simp (disch := omega) only [xI_le, xI_lt, xI_eq, xI_0, xI_ib, if_pos, if_neg, if_true, if_false, xI_cl, Int.toNat_natCast, iI_m, iI_a, iI_s, iI_1, xI_n, Option.bind_some, Int.natCast_add, Int.natCast_one, xI_zb, if_bI0, if_bI1, xI_rn, xI_ti, m_ofL0 hv R hj, show (104 + v.2 5 j).toNat = 104 + (v.2 5 j).toNat from by omega, R.2.2.2.1 (v.2 5 j).toNat (by omega)]
  rfl
theorem m_leftOf (hv : pv_ok v) (R : mo_pl h v) {j : Nat} (hj : j < v.1 1) : f_X12_leftOf (iI j) h = some (iI (pv_le v j)) := by
  have hb := pv_ct_b hv hj
  unfold f_X12_leftOf
  simp (disch := omega) only [xI_le, xI_lt, xI_eq, xI_0, xI_ib, if_pos, if_neg, if_true, if_false, xI_cl, Int.toNat_natCast, iI_m, iI_a, iI_s, iI_1, xI_n, Option.bind_some, Int.natCast_add, Int.natCast_one, xI_zb, if_bI0, if_bI1, xI_rn, xI_ti, m_centre hv R hj, m_partsOf hv R hb.1 hb.2.1, m_widthOf hv R hj]
  rfl
theorem m_rightOf (hv : pv_ok v) (R : mo_pl h v) {j : Nat} (hj : j < v.1 1) : f_X12_rightOf (iI j) h = some (iI (pv_re v j)) := by
  have hb := pv_ct_b hv hj
  unfold f_X12_rightOf
  simp (disch := omega) only [xI_le, xI_lt, xI_eq, xI_0, xI_ib, if_pos, if_neg, if_true, if_false, xI_cl, Int.toNat_natCast, iI_m, iI_a, iI_s, iI_1, xI_n, Option.bind_some, Int.natCast_add, Int.natCast_one, xI_zb, if_bI0, if_bI1, xI_rn, xI_ti, m_centre hv R hj, m_partsOf hv R hb.1 hb.2.1, m_widthOf hv R hj]
  rfl
theorem m_roomOf (hv : pv_ok v) (R : mo_pl h v) {i : Nat} (hi : i ≤ v.1 1) : f_X12_roomOf (iI i) h = some (iI (pv_rm v i)) := by
  have h8 := hv.1
  have key : ∀ y : Int, f_X12_roomOf_15 (iI i) (iI y) h = some (iI ((if i < v.1 1 then pv_le v i else pv_wP v) - y)) := by
    intro y
    unfold f_X12_roomOf_15
    by_cases c : i < v.1 1
    · simp (disch := omega) only [xI_le, xI_lt, xI_eq, xI_0, xI_ib, if_pos, if_neg, if_true, if_false, xI_cl, Int.toNat_natCast, iI_m, iI_a, iI_s, iI_1, xI_n, Option.bind_some, Int.natCast_add, Int.natCast_one, xI_zb, if_bI0, if_bI1, xI_rn, xI_ti, Int.toNat_one, R.1.2.1, m_leftOf hv R c]
    · simp (disch := omega) only [xI_le, xI_lt, xI_eq, xI_0, xI_ib, if_pos, if_neg, if_true, if_false, xI_cl, Int.toNat_natCast, iI_m, iI_a, iI_s, iI_1, xI_n, Option.bind_some, Int.natCast_add, Int.natCast_one, xI_zb, if_bI0, if_bI1, xI_rn, xI_ti, Int.toNat_one, R.1.2.1, m_wholeParts hv R]
  unfold f_X12_roomOf
  cases i with
  | zero => exact key 0
  | succ i =>
    simp (disch := omega) only [xI_le, xI_lt, xI_eq, xI_0, xI_ib, if_pos, if_neg, if_true, if_false, xI_cl, Int.toNat_natCast, iI_m, iI_a, iI_s, iI_1, xI_n, Option.bind_some, Int.natCast_add, Int.natCast_one, xI_zb, if_bI0, if_bI1, xI_rn, xI_ti, show ((i : Int) + 1 - 1) = i from by omega, m_rightOf hv R (j := i) (by omega)]
    have := key (pv_re v i)
    rw [Int.natCast_add, Int.natCast_one] at this
    exact this
end MOR
