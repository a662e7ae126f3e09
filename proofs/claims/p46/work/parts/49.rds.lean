/-! what is read, on both sides -/
theorem clC_r {f : am_H → Option (Int32 ⊕ Nat)} {h : am_H} {st : St} {o : Int32 ⊕ Nat} (e : f h = some o) (R : ClR h st) : clC (fun h => (f h).map (fun a => (a, h))) h st o := ⟨h, by show Option.map _ (f h) = _; rw [e]; rfl, R, MFr.rf⟩
theorem clC_w {f : am_H → Option ((Int32 ⊕ Nat) × am_H)} {h h1 : am_H} {st : St} {o : Int32 ⊕ Nat} {L : List (am_G × Nat)} (e : f h = some (o, h1)) (w : Wr L h h1) (n1 : L.all scrC = true) (n2 : L.all notM = true) (R : ClR h st) : clC f h st o := ⟨h1, e, ClR.wr w n1 R, w.MF n2⟩
section RDS
variable {h : am_H} {v : pv_T}
abbrev ex1 : Nat → Option Int32 := fun e => match e with | 1 => some (iI 1) | _ => none
abbrev ex2 : Nat → Option Int32 := fun e => match e with | 2 => some (iI 1) | _ => none
abbrev ex0 : Nat → Option Int32 := fun e => match e with | 0 => some (iI 1) | _ => none
abbrev ex12 : Nat → Option Int32 := fun e => match e with | 1 => some (iI 2) | 2 => some (iI 1) | _ => none
abbrev ex02 : Nat → Option Int32 := fun e => match e with | 0 => some (iI 2) | 2 => some (iI 1) | _ => none
theorem agr1 {b : Int32} : agr (.inr 1) ex1 b (iI 1) := ⟨rfl, by decide⟩
theorem agr2 {b : Int32} : agr (.inr 2) ex2 b (iI 1) := ⟨rfl, by decide⟩
theorem agr0 {b : Int32} : agr (.inr 0) ex0 b (iI 1) := ⟨rfl, by decide⟩
theorem agr12a {b : Int32} : agr (.inr 2) ex12 b (iI 1) := ⟨rfl, by decide⟩
theorem agr12b {b : Int32} : agr (.inr 1) ex12 b (iI 2) := ⟨rfl, by decide⟩
theorem agr02a {b : Int32} : agr (.inr 2) ex02 b (iI 1) := ⟨rfl, by decide⟩
theorem agr02b {b : Int32} : agr (.inr 0) ex02 b (iI 2) := ⟨rfl, by decide⟩
theorem agrv {b : Int32} {f : Nat → Option Int32} : agr (.inl b) f b (iI 0) := ⟨rfl, rfl⟩
end RDS
section RDT
variable {h : am_H} {st : St}
/-! the turns, the parts -/
theorem cl_partsAt (ok : Ok st) (R : ClR h st) {t : Int} (ht : -2147483648 ≤ t ∧ t < 2147483648) : clC (fun h => (f_X11_partsAt (iI t) h).map (fun a => (a, h))) h st (if 0 ≤ t ∧ t ≤ pv_wT st.1 then .inl (iI (pv_pT st.1 t (st.1.1 0))) else .inr 1) := by
  have hv := ok.1.1
  have hw := pv_tW_b hv
  refine clC_r ?_ R
  unfold f_X11_partsAt
  by_cases c : 0 ≤ t ∧ t ≤ pv_wT st.1
  · simp (disch := omega) only [xI_le, xI_lt, xI_eq, xI_0, xI_ib, if_pos, if_neg, if_true, if_false, xI_cl, Int.toNat_natCast, iI_m, iI_a, iI_s, iI_1, xI_n, Option.bind_some, Int.natCast_add, Int.natCast_one, xI_zb, if_bI0, if_bI1, xI_rn, xI_ti, k_wholeTurn hv R.1.1, k_isWithin (n := t) (a := 0) (b := pv_wT st.1) (by omega) (by omega) (by omega), k_partsTo hv R.1.1 (t := t) (by omega)]
  · simp (disch := omega) only [xI_le, xI_lt, xI_eq, xI_0, xI_ib, if_pos, if_neg, if_true, if_false, xI_cl, Int.toNat_natCast, iI_m, iI_a, iI_s, iI_1, xI_n, Option.bind_some, Int.natCast_add, Int.natCast_one, xI_zb, if_bI0, if_bI1, xI_rn, xI_ti, k_wholeTurn hv R.1.1, k_isWithin (n := t) (a := 0) (b := pv_wT st.1) (by omega) (by omega) (by omega)]
theorem cl_heading (ok : Ok st) (R : ClR h st) {t : Int} (ht : -2147483648 ≤ t ∧ t < 2147483648) : clC (fun h => (f_X11_heading (iI t) h).map (fun a => (a, h))) h st (if 0 ≤ t ∧ t ≤ pv_wT st.1 then .inl (iI (pv_bT st.1 t (st.1.1 0) % 3600)) else .inr 1) := by
  have hv := ok.1.1
  have hw := pv_tW_b hv
  refine clC_r ?_ R
  unfold f_X11_heading
  by_cases c : 0 ≤ t ∧ t ≤ pv_wT st.1
  · simp (disch := omega) only [xI_le, xI_lt, xI_eq, xI_0, xI_ib, if_pos, if_neg, if_true, if_false, xI_cl, Int.toNat_natCast, iI_m, iI_a, iI_s, iI_1, xI_n, Option.bind_some, Int.natCast_add, Int.natCast_one, xI_zb, if_bI0, if_bI1, xI_rn, xI_ti, k_wholeTurn hv R.1.1, k_isWithin (n := t) (a := 0) (b := pv_wT st.1) (by omega) (by omega) (by omega), k_headingTo hv R.1.1 (t := t) (by omega)]
  · simp (disch := omega) only [xI_le, xI_lt, xI_eq, xI_0, xI_ib, if_pos, if_neg, if_true, if_false, xI_cl, Int.toNat_natCast, iI_m, iI_a, iI_s, iI_1, xI_n, Option.bind_some, Int.natCast_add, Int.natCast_one, xI_zb, if_bI0, if_bI1, xI_rn, xI_ti, k_wholeTurn hv R.1.1, k_isWithin (n := t) (a := 0) (b := pv_wT st.1) (by omega) (by omega) (by omega)]
theorem pv_pA_mono {v : pv_T} (hv : pv_ok v) {i j : Nat} (h : i ≤ j) (hj : j ≤ v.1 0) : pv_pA v i ≤ pv_pA v j := sI_mono h (fun q hq => by
  have := hv.2.1 q (by omega)
  exact Int.mul_nonneg (by omega) (by omega))
/-- the parts up to a turn, without looking for its arc -/
theorem pv_pT_in {v : pv_T} (hv : pv_ok v) {t : Int} {a : Nat} (ha : a < v.1 0) (h1 : pv_tA v a ≤ t) (h2 : t ≤ pv_tA v (a + 1)) : pv_pT v t (v.1 0) = pv_pA v a + v.2 1 a * (t - pv_tA v a) := by
  have hw : t ≤ pv_wT v := Int.le_trans h2 (pv_tA_mono hv (by omega) (Nat.le_refl _))
  have h0 : 0 ≤ t := Int.le_trans (pv_tA_b hv (by omega)).1 h1
  by_cases c : t < pv_tA v (a + 1) ∨ a + 1 = v.1 0
  · exact pv_pT_at hv h0 hw ha h1 c
  · have e : t = pv_tA v (a + 1) := by omega
    have hc := hv.2.1 (a + 1) (by omega)
    have h3 := pv_pT_at hv h0 hw (a := a + 1) (by omega) (by omega) (by rw [pv_tA_s v (a + 1)]; omega)
    rw [h3, e, Int.sub_self, Int.mul_zero, Int.add_zero, pv_pA_s, pv_tA_s, show pv_tA v a + 10 * v.2 2 a - pv_tA v a = 10 * v.2 2 a by omega]
/-- the turn of so many parts is the greatest one that has at most so many -/
theorem pv_tW_at {v : pv_T} (hv : pv_ok v) {q : Int} (h0 : 0 ≤ q) (hq : q ≤ pv_wP v) : 0 ≤ pv_tW v q ∧ pv_tW v q ≤ pv_wT v ∧ pv_pT v (pv_tW v q) (v.1 0) ≤ q ∧ ∀ t, pv_tW v q < t → t ≤ pv_wT v → q < pv_pT v t (v.1 0) := by
  have hm := pv_fst_le (fun i => decide (q < pv_pA v (i + 1))) (v.1 0) 0
  have hat := pv_fst_at (fun i => decide (q < pv_pA v (i + 1))) (v.1 0) 0
  have hlt := pv_fst_lt (fun i => decide (q < pv_pA v (i + 1))) (v.1 0) 0
  have hw := pv_tW_b hv
  unfold pv_tW
  generalize pv_fst (fun i => decide (q < pv_pA v (i + 1))) (v.1 0) 0 = m at hm hat hlt ⊢
  simp only [decide_eq_true_eq, decide_eq_false_iff_not] at hat hlt
  by_cases hmn : m < v.1 0
  · rw [if_pos hmn]
    have hc := hat (by omega)
    have hr := hv.2.1 m hmn
    have hlow : pv_pA v m ≤ q := by
      cases m with
      | zero => exact h0
      | succ m => have := hlt m (by omega) (by omega); omega
    rw [pv_pA_s] at hc
    have hta := pv_tA_b hv (n := m) (by omega)
    have hts := pv_tA_s v m
    have htw := pv_tA_mono hv (i := m + 1) (j := v.1 0) (by omega) (Nat.le_refl _)
    have d1 : 0 ≤ (q - pv_pA v m) / v.2 1 m := Int.ediv_nonneg (by omega) (by omega)
    have d2 : (q - pv_pA v m) / v.2 1 m < 10 * v.2 2 m := Int.ediv_lt_of_lt_mul (by omega) (by rw [Int.mul_comm]; omega)
    have d3 : v.2 1 m * ((q - pv_pA v m) / v.2 1 m) ≤ q - pv_pA v m := Int.mul_ediv_self_le (by omega)
    have d4 : q - pv_pA v m < v.2 1 m * ((q - pv_pA v m) / v.2 1 m + 1) := by
      have := Int.lt_mul_ediv_self_add (x := q - pv_pA v m) (k := v.2 1 m) (by omega)
      rw [Int.mul_add, Int.mul_one]
      exact this
    generalize (q - pv_pA v m) / v.2 1 m = d at d1 d2 d3 d4 ⊢
    have e0 : pv_tA v (v.1 0) = pv_wT v := rfl
    refine ⟨by omega, by omega, ?_, fun t h1 h2 => ?_⟩
    · rw [pv_pT_in hv hmn (by omega) (by omega), show pv_tA v m + d - pv_tA v m = d by omega]
      omega
    · by_cases c : t ≤ pv_tA v (m + 1)
      · rw [pv_pT_in hv hmn (by omega) c]
        have : v.2 1 m * (d + 1) ≤ v.2 1 m * (t - pv_tA v m) := Int.mul_le_mul_of_nonneg_left (by omega) (by omega)
        omega
      · obtain ⟨a, -, ha, ha1, ha2, -⟩ := pv_ar_at (v := v) (t := t) (by omega) (by omega)
        have ham : m + 1 ≤ a := by
          refine Nat.not_lt.mp (fun z => ?_)
          rcases ha2 with ha2 | ha2
          · have := pv_tA_mono hv (i := a + 1) (j := m + 1) (by omega) (by omega)
            omega
          · have e9 : a = m := by omega
            subst e9
            rw [ha2, e0] at c
            exact c h2
        rw [pv_pT_at hv (by omega) h2 ha ha1 ha2]
        have h9 := pv_pA_mono hv (i := m + 1) (j := a) ham (by omega)
        rw [pv_pA_s] at h9
        have h10 : 0 ≤ v.2 1 a * (t - pv_tA v a) := Int.mul_nonneg (by have := hv.2.1 a ha; omega) (by omega)
        omega
  · rw [if_neg hmn]
    have e : m = v.1 0 := by omega
    refine ⟨hw.1, Int.le_refl _, ?_, fun t h1 h2 => absurd h1 (by omega)⟩
    by_cases hn : 0 < v.1 0
    · have hl := hlt (v.1 0 - 1) (by omega) (by omega)
      rw [show v.1 0 - 1 + 1 = v.1 0 by omega] at hl
      have hp := pv_pT_in hv (t := pv_wT v) (a := v.1 0 - 1) (by omega) (pv_tA_mono hv (by omega) (Nat.le_refl _)) (by rw [show v.1 0 - 1 + 1 = v.1 0 by omega]; exact Int.le_refl _)
      have s1 := pv_tA_s v (v.1 0 - 1)
      have s2 := pv_pA_s v (v.1 0 - 1)
      rw [show v.1 0 - 1 + 1 = v.1 0 by omega] at s1 s2
      have e1 : pv_wT v - pv_tA v (v.1 0 - 1) = 10 * v.2 2 (v.1 0 - 1) := by show pv_tA v (v.1 0) - _ = _; omega
      rw [hp, e1]
      omega
    · have e0 : v.1 0 = 0 := by omega
      rw [e0]
      exact h0
end RDT
