/-! engrave, engraveAll -/
section ENV
variable {h : am_H} {st : St} {v : pv_T}
theorem pvA_S {w : pv_T} (s : sameC v w) (hw : pv_ok w) (hv : pvA v) : pvA w := by
  have e1 : w.2 1 = v.2 1 := s.2.2.2.1 1 (by omega) (by omega) (by omega) (by omega)
  have e14 : w.2 14 = v.2 14 := s.2.2.2.1 14 (by omega) (by omega) (by omega) (by omega)
  refine ⟨hw, ?_, ?_⟩
  · rw [s.1, e1]; exact hv.2.1
  · rw [s.2.2.1]
    intro q hq
    show nm_ok (fun i => w.2 14 (8 * q + i))
    rw [e14]; exact hv.2.2 q hq
theorem sameC.K {w : pv_T} (s : sameC v w) : sameK v w := by
  have e14 : w.2 14 = v.2 14 := s.2.2.2.1 14 (by omega) (by omega) (by omega) (by omega)
  refine ⟨s.2.2.1, fun q hq => ?_⟩
  show (fun i => w.2 14 (8 * q + i)) = _
  rw [e14]
theorem engL_A {j : Nat} (hv : pvA v) (hn : v.1 3 ≤ 40) (hj : j < v.1 1) : pvA (engL v j) := pvA_S engL_S ((engL_W (pvW_of hv.1) hj).ok (by have := engL_3 v j; omega)) hv
theorem enA_A (hv : pvA v) : pvA (enA 40 v (v.1 1)).2 := pvA_S (enA_S _) ((enA_W (pvW_of hv.1) _ (Nat.le_refl _)).ok (enA_44 hv.1.1.2.2.2 _)) hv
def cEn (v : pv_T) (j : Nat) : Prop := v.2 6 j = 0 ∧ 0 < v.1 0 ∧ v.1 3 ≤ 40
def sEn (st : St) (i : Int) : St := if (0 ≤ i ∧ i ≤ (st.1.1 1 : Int) - 1) ∧ st.1.2 6 i.toNat = 0 ∧ 0 < st.1.1 0 ∧ st.1.1 3 ≤ 40 then setPl (stK st) (engL st.1 i.toNat) else st
def oEn (st : St) (i : Int) : Int32 ⊕ Nat := if 0 ≤ i ∧ i ≤ (st.1.1 1 : Int) - 1 then (if st.1.2 6 i.toNat = 0 ∧ 0 < st.1.1 0 ∧ st.1.1 3 ≤ 40 then .inl (iI (((engL st.1 i.toNat).1 3 : Int) - st.1.1 3)) else .inr 0) else .inr 2
theorem sEn_ok (ok : Ok st) {i : Int} : Ok (sEn st i) := by
  unfold sEn
  split
  next c => exact setPl_ok (stK_ok ok) (engL_A ok.1 c.2.2.2 (by omega)) engL_S.K
  · exact ok
theorem cl_engrave (ok : Ok st) (R : ClR h st) {i : Int} (hi : -2147483648 ≤ i ∧ i < 2147483648) : clC (f_X11_engrave (iI i)) h (sEn st i) (oEn st i) := by
  have hv := ok.1.1
  have h8 := hv.1
  have ea := k_hasLetter hv R.1.2.1 hi
  unfold sEn oEn
  by_cases c : 0 ≤ i ∧ i ≤ (st.1.1 1 : Int) - 1
  · obtain ⟨j, rfl⟩ : ∃ j : Nat, i = j := ⟨i.toNat, by omega⟩
    rw [Int.toNat_natCast]
    have hj : j < st.1.1 1 := by omega
    have ec := k_canEngrave (pvW_of hv) (by omega) R.1 hj
    rw [show bI (0 ≤ (j : Int) ∧ (j : Int) ≤ (st.1.1 1 : Int) - 1) = 1 from if_pos c] at ea
    by_cases d : st.1.2 6 j = 0 ∧ 0 < st.1.1 0 ∧ st.1.1 3 ≤ 40
    · rw [if_pos ⟨c, d⟩, if_pos c, if_pos d]
      rw [show bI (st.1.2 6 j = 0 ∧ 0 < st.1.1 0 ∧ st.1.1 3 ≤ 40) = 1 from if_pos d] at ec
      obtain ⟨h1, e1, C1, M1⟩ := cl_keep ok R
      obtain ⟨h2, e2, P2⟩ := k_engraveLetter (pvW_of hv) d.2.2 (show cl_pl h1 0 st.1 from C1.1) hj
      refine clC_ch C1 M1 (wr_X5_engraveLetter e2) (by simp) P2 ?_
      unfold f_X11_engrave
      simp (disch := omega) only [xI_le, xI_lt, xI_eq, xI_0, xI_ib, if_pos, if_neg, if_true, if_false, xI_cl, Int.toNat_natCast, iI_m, iI_a, iI_s, iI_1, xI_n, Option.bind_some, Int.natCast_add, Int.natCast_one, xI_zb, if_bI0, if_bI1, xI_rn, xI_ti, ea, ec, e1, e2]
    · rw [if_neg (fun z => d z.2), if_pos c, if_neg d]
      rw [show bI (st.1.2 6 j = 0 ∧ 0 < st.1.1 0 ∧ st.1.1 3 ≤ 40) = 0 from if_neg d] at ec
      refine clC_w (h1 := h) ?_ (Wr.rf (L := [])) rfl rfl R
      unfold f_X11_engrave
      simp (disch := omega) only [xI_le, xI_lt, xI_eq, xI_0, xI_ib, if_pos, if_neg, if_true, if_false, xI_cl, Int.toNat_natCast, iI_m, iI_a, iI_s, iI_1, xI_n, Option.bind_some, Int.natCast_add, Int.natCast_one, xI_zb, if_bI0, if_bI1, xI_rn, xI_ti, ea, ec]
  · rw [if_neg (fun z => c z.1), if_neg c]
    rw [show bI (0 ≤ i ∧ i ≤ (st.1.1 1 : Int) - 1) = 0 from if_neg c] at ea
    refine clC_w (h1 := h) ?_ (Wr.rf (L := [])) rfl rfl R
    unfold f_X11_engrave
    simp (disch := omega) only [xI_le, xI_lt, xI_eq, xI_0, xI_ib, if_pos, if_neg, if_true, if_false, xI_cl, Int.toNat_natCast, iI_m, iI_a, iI_s, iI_1, xI_n, Option.bind_some, Int.natCast_add, Int.natCast_one, xI_zb, if_bI0, if_bI1, xI_rn, xI_ti, ea]
def cAll (v : pv_T) : Bool := decide (cN (fun j => decide (v.2 6 j = 1)) (v.1 1) < v.1 1 ∧ 0 < v.1 0 ∧ v.1 3 ≤ 40)
def sEa (st : St) : St := if cAll st.1 = true then setPl (stK st) (enA 40 st.1 (st.1.1 1)).2 else st
def oEa (st : St) : Int32 ⊕ Nat := if cAll st.1 = true then .inl (iI (enA 40 st.1 (st.1.1 1)).1) else .inr 0
theorem sEa_ok (ok : Ok st) : Ok (sEa st) := by
  unfold sEa
  split
  · exact setPl_ok (stK_ok ok) (enA_A ok.1) (enA_S _).K
  · exact ok
theorem cAll_t {v : pv_T} (c : cAll v = true) : cN (fun j => decide (v.2 6 j = 1)) (v.1 1) < v.1 1 ∧ 0 < v.1 0 ∧ v.1 3 ≤ 40 := of_decide_eq_true c
theorem cAll_f {v : pv_T} (c : ¬ cAll v = true) : ¬ (cN (fun j => decide (v.2 6 j = 1)) (v.1 1) < v.1 1 ∧ 0 < v.1 0 ∧ v.1 3 ≤ 40) := fun z => c (decide_eq_true z)
theorem k_canPlanned {k : Nat} (hv : pv_ok v) (R : cl_pl h k v) : f_X5_canEngravePlanned k h = some (iI (bI (cAll v = true))) := by
  have h8 := hv.1
  have ea := k_engravedLetters hv R.2.1
  have eb := k_canAny (pvW_of hv) (by omega) R
  have hc := cN_le (fun j => decide (v.2 6 j = 1)) (v.1 1)
  unfold f_X5_canEngravePlanned
  by_cases c : cAll v = true
  · have c' := cAll_t c
    rw [show bI (cAll v = true) = 1 from if_pos c]
    rw [show bI (0 < v.1 0 ∧ v.1 3 ≤ 40) = 1 from if_pos c'.2] at eb
    generalize cN (fun j => decide (v.2 6 j = 1)) (v.1 1) = n at *
    simp (disch := omega) only [xI_le, xI_lt, xI_eq, xI_0, xI_ib, if_pos, if_neg, if_true, if_false, xI_cl, Int.toNat_natCast, iI_m, iI_a, iI_s, iI_1, xI_n, Option.bind_some, Int.natCast_add, Int.natCast_one, xI_zb, if_bI0, if_bI1, xI_rn, xI_ti, ea, R.2.1.1, eb]
  · have c' := cAll_f c
    rw [show bI (cAll v = true) = 0 from if_neg c]
    generalize cN (fun j => decide (v.2 6 j = 1)) (v.1 1) = n at *
    by_cases d : n < v.1 1
    · rw [show bI (0 < v.1 0 ∧ v.1 3 ≤ 40) = 0 from if_neg (fun z => c' ⟨d, z⟩)] at eb
      simp (disch := omega) only [xI_le, xI_lt, xI_eq, xI_0, xI_ib, if_pos, if_neg, if_true, if_false, xI_cl, Int.toNat_natCast, iI_m, iI_a, iI_s, iI_1, xI_n, Option.bind_some, Int.natCast_add, Int.natCast_one, xI_zb, if_bI0, if_bI1, xI_rn, xI_ti, ea, R.2.1.1, eb]
    · simp (disch := omega) only [xI_le, xI_lt, xI_eq, xI_0, xI_ib, if_pos, if_neg, if_true, if_false, xI_cl, Int.toNat_natCast, iI_m, iI_a, iI_s, iI_1, xI_n, Option.bind_some, Int.natCast_add, Int.natCast_one, xI_zb, if_bI0, if_bI1, xI_rn, xI_ti, ea, R.2.1.1]
theorem cl_engraveAll (ok : Ok st) (R : ClR h st) : clC f_X11_engraveAll h (sEa st) (oEa st) := by
  have hv := ok.1.1
  have ea := k_canPlanned hv R.1
  unfold sEa oEa
  by_cases c : cAll st.1 = true
  · rw [if_pos c, if_pos c]
    rw [show bI (cAll st.1 = true) = 1 from if_pos c] at ea
    obtain ⟨h1, e1, C1, M1⟩ := cl_keep ok R
    obtain ⟨h2, e2, P2⟩ := k_engravePlanned (pvW_of hv) hv.1.2.2.2 (cAll_t c).2.1 (show cl_pl h1 0 st.1 from C1.1)
    refine clC_ch C1 M1 (wr_X5_engravePlanned e2) (by simp) P2 ?_
    unfold f_X11_engraveAll
    simp (disch := omega) only [xI_le, xI_lt, xI_eq, xI_0, xI_ib, if_pos, if_neg, if_true, if_false, xI_cl, Int.toNat_natCast, iI_m, iI_a, iI_s, iI_1, xI_n, Option.bind_some, Int.natCast_add, Int.natCast_one, xI_zb, if_bI0, if_bI1, xI_rn, xI_ti, ea, e1, e2]
  · rw [if_neg c, if_neg c]
    rw [show bI (cAll st.1 = true) = 0 from if_neg c] at ea
    refine clC_w (h1 := h) ?_ (Wr.rf (L := [])) rfl rfl R
    unfold f_X11_engraveAll
    simp (disch := omega) only [xI_le, xI_lt, xI_eq, xI_0, xI_ib, if_pos, if_neg, if_true, if_false, xI_cl, Int.toNat_natCast, iI_m, iI_a, iI_s, iI_1, xI_n, Option.bind_some, Int.natCast_add, Int.natCast_one, xI_zb, if_bI0, if_bI1, xI_rn, xI_ti, ea]
end ENV
