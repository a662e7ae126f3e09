/-! engrave, engraveAll -/
section ENV
variable {h : am_H} {st : St} {v : pv_T}
theorem pvA_S {w : pv_T} (s : sameC v w) (hw : pv_ok w) (hv : pvA v) : pvA w := by
  have e1 : w.2 1 = v.2 1 := s.2.2.2.1 1 (by omega) (by omega) (by omega) (by omega)
  have e14 : w.2 14 = v.2 14 := s.2.2.2.1 14 (by omega) (by omega) (by omega) (by omega)
  refine ⟨hw, ?_, ?_⟩
  · rw [s.1, e1]; exact hv.2.1
  · rw [s.2.2.1]
    intro q hq
    show nm_ok (fun i => w.2 14 (8 * q + i))
    rw [e14]; exact hv.2.2 q hq
theorem sameC.K {w : pv_T} (s : sameC v w) : sameK v w := by
  have e14 : w.2 14 = v.2 14 := s.2.2.2.1 14 (by omega) (by omega) (by omega) (by omega)
  refine ⟨s.2.2.1, fun q hq => ?_⟩
  show (fun i => w.2 14 (8 * q + i)) = _
  rw [e14]
theorem engL_A {j : Nat} (hv : pvA v) (hn : v.1 3 ≤ 40) (hj : j < v.1 1) : pvA (engL v j) := pvA_S engL_S ((engL_W (pvW_of hv.1) hj).ok (by have := engL_3 v j; omega)) hv
theorem enA_A (hv : pvA v) : pvA (enA 40 v (v.1 1)).2 := pvA_S (enA_S _) ((enA_W (pvW_of hv.1) _ (Nat.le_refl _)).ok (enA_44 hv.1.1.2.2.2 _)) hv
theorem m_isPlanned (hv : pv_ok v) (R : mo_pl h v) {j : Nat} (hj : j < v.1 1) : f_X12_isPlanned (iI j) h = some (iI (bI (v.2 6 j = 0))) := by
  have h6 := hv.2.2.1 j hj
  unfold f_X12_isPlanned bI
  simp (disch := omega) only [xI_le, xI_lt, xI_eq, xI_0, xI_ib, if_pos, if_neg, if_true, if_false, xI_cl, Int.toNat_natCast, iI_m, iI_a, iI_s, iI_1, xI_n, Option.bind_some, Int.natCast_add, Int.natCast_one, xI_zb, if_bI0, if_bI1, xI_rn, xI_ti, m_ofL1 hv R hj]
  split <;> rfl
theorem m_mayEngrave (hv : pv_ok v) (R : mo_pl h v) : f_X12_mayEngrave h = some (iI (bI (0 < v.1 0 ∧ v.1 3 ≤ 40))) := by
  have h8 := hv.1
  unfold f_X12_mayEngrave bI
  simp (disch := omega) only [xI_le, xI_lt, xI_eq, xI_0, xI_ib, if_pos, if_neg, if_true, if_false, xI_cl, Int.toNat_natCast, iI_m, iI_a, iI_s, iI_1, xI_n, Option.bind_some, Int.natCast_add, Int.natCast_one, xI_zb, if_bI0, if_bI1, xI_rn, xI_ti, Int.toNat_zero, show (8 : Int).toNat = 8 from rfl, R.1.1, R.1.2.2.2.2.2.2.2.2]
  (repeat' split) <;> first | rfl | (exfalso; omega)
def cEn (v : pv_T) (j : Nat) : Prop := v.2 6 j = 0 ∧ 0 < v.1 0 ∧ v.1 3 ≤ 40
def sEn (st : St) (i : Int) : St := if (0 ≤ i ∧ i ≤ (st.1.1 1 : Int) - 1) ∧ st.1.2 6 i.toNat = 0 ∧ 0 < st.1.1 0 ∧ st.1.1 3 ≤ 40 then setPl (stK st) (engL st.1 i.toNat) else st
def oEn (st : St) (i : Int) : Int32 ⊕ Nat := if 0 ≤ i ∧ i ≤ (st.1.1 1 : Int) - 1 then (if st.1.2 6 i.toNat = 0 ∧ 0 < st.1.1 0 ∧ st.1.1 3 ≤ 40 then .inl (iI (((engL st.1 i.toNat).1 3 : Int) - st.1.1 3)) else .inr 0) else .inr 2
theorem sEn_ok (ok : Ok st) {i : Int} : Ok (sEn st i) := by
  unfold sEn
  split
  next c => exact setPl_ok (stK_ok ok) (engL_A ok.1 c.2.2.2 (by omega)) engL_S.K
  · exact ok
theorem cl_engrave (ok : Ok st) (R : ClR h st) {i : Int} (hi : -2147483648 ≤ i ∧ i < 2147483648) : clC (f_X11_engrave (iI i)) h (sEn st i) (oEn st i) := by
  have hv := ok.1.1
  have h8 := hv.1
  have ea := k_hasLetter hv R.1.2.1 hi
  unfold sEn oEn
  by_cases c : 0 ≤ i ∧ i ≤ (st.1.1 1 : Int) - 1
  · obtain ⟨j, rfl⟩ : ∃ j : Nat, i = j := ⟨i.toNat, by omega⟩
    rw [Int.toNat_natCast]
    have hj : j < st.1.1 1 := by omega
    have ec := k_canEngrave (pvW_of hv) (by omega) R.1 hj
    rw [show bI (0 ≤ (j : Int) ∧ (j : Int) ≤ (st.1.1 1 : Int) - 1) = 1 from if_pos c] at ea
    by_cases d : st.1.2 6 j = 0 ∧ 0 < st.1.1 0 ∧ st.1.1 3 ≤ 40
    · rw [if_pos ⟨c, d⟩, if_pos c, if_pos d]
      rw [show bI (st.1.2 6 j = 0 ∧ 0 < st.1.1 0 ∧ st.1.1 3 ≤ 40) = 1 from if_pos d] at ec
      obtain ⟨h1, e1, C1, M1⟩ := cl_keep ok R
      obtain ⟨h2, e2, P2⟩ := k_engraveLetter (pvW_of hv) d.2.2 (show cl_pl h1 0 st.1 from C1.1) hj
      refine clC_ch C1 M1 (wr_X5_engraveLetter e2) (by simp) P2 ?_
      unfold f_X11_engrave
      simp (disch := omega) only [xI_le, xI_lt, xI_eq, xI_0, xI_ib, if_pos, if_neg, if_true, if_false, xI_cl, Int.toNat_natCast, iI_m, iI_a, iI_s, iI_1, xI_n, Option.bind_some, Int.natCast_add, Int.natCast_one, xI_zb, if_bI0, if_bI1, xI_rn, xI_ti, ea, ec, e1, e2]
    · rw [if_neg (fun z => d z.2), if_pos c, if_neg d]
      rw [show bI (st.1.2 6 j = 0 ∧ 0 < st.1.1 0 ∧ st.1.1 3 ≤ 40) = 0 from if_neg d] at ec
      refine clC_w (h1 := h) ?_ (Wr.rf (L := [])) rfl rfl R
      unfold f_X11_engrave
      simp (disch := omega) only [xI_le, xI_lt, xI_eq, xI_0, xI_ib, if_pos, if_neg, if_true, if_false, xI_cl, Int.toNat_natCast, iI_m, iI_a, iI_s, iI_1, xI_n, Option.bind_some, Int.natCast_add, Int.natCast_one, xI_zb, if_bI0, if_bI1, xI_rn, xI_ti, ea, ec]
  · rw [if_neg (fun z => c z.1), if_neg c]
    rw [show bI (0 ≤ i ∧ i ≤ (st.1.1 1 : Int) - 1) = 0 from if_neg c] at ea
    refine clC_w (h1 := h) ?_ (Wr.rf (L := [])) rfl rfl R
    unfold f_X11_engrave
    simp (disch := omega) only [xI_le, xI_lt, xI_eq, xI_0, xI_ib, if_pos, if_neg, if_true, if_false, xI_cl, Int.toNat_natCast, iI_m, iI_a, iI_s, iI_1, xI_n, Option.bind_some, Int.natCast_add, Int.natCast_one, xI_zb, if_bI0, if_bI1, xI_rn, xI_ti, ea]
theorem m_engrave32 {j : Nat} (hv : pv_ok v) (R : mo_pl h v) (hj : j < v.1 1) : f_X12_engrave (iI j) h = f_X12_engrave_32 (iI j) (iI 1) (iI (bI (v.2 6 j = 0 ∧ 0 < v.1 0 ∧ v.1 3 ≤ 40))) h := by
  have h8 := hv.1
  have ea := m_isLetter0 hv R (i := j) (by omega)
  rw [show bI (0 ≤ (j : Int) ∧ (j : Int) ≤ (v.1 1 : Int) - 1) = 1 from if_pos (by omega)] at ea
  have eb := m_isPlanned hv R hj
  have ec := m_mayEngrave hv R
  unfold f_X12_engrave
  by_cases c : v.2 6 j = 0
  · rw [show bI (v.2 6 j = 0) = 1 from if_pos c] at eb
    by_cases d : 0 < v.1 0 ∧ v.1 3 ≤ 40
    · rw [show bI (0 < v.1 0 ∧ v.1 3 ≤ 40) = 1 from if_pos d] at ec
      rw [show bI (v.2 6 j = 0 ∧ 0 < v.1 0 ∧ v.1 3 ≤ 40) = 1 from if_pos ⟨c, d⟩]
      simp (disch := omega) only [xI_le, xI_lt, xI_eq, xI_0, xI_ib, if_pos, if_neg, if_true, if_false, xI_cl, Int.toNat_natCast, iI_m, iI_a, iI_s, iI_1, xI_n, Option.bind_some, Int.natCast_add, Int.natCast_one, xI_zb, if_bI0, if_bI1, xI_rn, xI_ti, ea, eb, ec]
    · rw [show bI (0 < v.1 0 ∧ v.1 3 ≤ 40) = 0 from if_neg d] at ec
      rw [show bI (v.2 6 j = 0 ∧ 0 < v.1 0 ∧ v.1 3 ≤ 40) = 0 from if_neg (fun z => d z.2)]
      simp (disch := omega) only [xI_le, xI_lt, xI_eq, xI_0, xI_ib, if_pos, if_neg, if_true, if_false, xI_cl, Int.toNat_natCast, iI_m, iI_a, iI_s, iI_1, xI_n, Option.bind_some, Int.natCast_add, Int.natCast_one, xI_zb, if_bI0, if_bI1, xI_rn, xI_ti, ea, eb, ec]
  · rw [show bI (v.2 6 j = 0) = 0 from if_neg c] at eb
    rw [show bI (v.2 6 j = 0 ∧ 0 < v.1 0 ∧ v.1 3 ≤ 40) = 0 from if_neg (fun z => c z.1)]
    simp (disch := omega) only [xI_le, xI_lt, xI_eq, xI_0, xI_ib, if_pos, if_neg, if_true, if_false, xI_cl, Int.toNat_natCast, iI_m, iI_a, iI_s, iI_1, xI_n, Option.bind_some, Int.natCast_add, Int.natCast_one, xI_zb, if_bI0, if_bI1, xI_rn, xI_ti, ea, eb]
theorem mo_engrave (ok : Ok st) (R : MoR h st) {i : Int} (hi : -2147483648 ≤ i ∧ i < 2147483648) : moC (f_X12_engrave (iI i)) h (sEn st i) (oEn st i) ex02 := by
  have hv := ok.1.1
  have h8 := hv.1
  unfold sEn oEn
  by_cases c : 0 ≤ i ∧ i ≤ (st.1.1 1 : Int) - 1
  · obtain ⟨j, rfl⟩ : ∃ j : Nat, i = j := ⟨i.toNat, by omega⟩
    rw [Int.toNat_natCast]
    have hj : j < st.1.1 1 := by omega
    have e0 := m_engrave32 hv R.1.1 hj
    by_cases d : st.1.2 6 j = 0 ∧ 0 < st.1.1 0 ∧ st.1.1 3 ≤ 40
    · rw [if_pos ⟨c, d⟩, if_pos c, if_pos d]
      rw [show bI (st.1.2 6 j = 0 ∧ 0 < st.1.1 0 ∧ st.1.1 3 ≤ 40) = 1 from if_pos d] at e0
      obtain ⟨h', e, M, C, z⟩ := mo_change (m1 := f_X12_engraves (iI (j : Int))) (v := engL st.1 j) (x := iI (((engL st.1 j).1 3 : Int) - st.1.1 3)) ok R engL_S.K (fun s P => by
        obtain ⟨s', e, P'⟩ := m_engraves (pvW_of hv) (by omega) P hj
        exact ⟨s', e, P', wr_X12_engraves e⟩)
      refine moC_ch ?_ M C z
      rw [e0]
      unfold f_X12_engrave_32
      rw [m_gB1, Option.bind_some]
      exact (if_neg (show ¬ (iI 1 : Int32) = 0 by decide)).trans e
    · rw [if_neg (fun z => d z.2), if_pos c, if_neg d]
      rw [show bI (st.1.2 6 j = 0 ∧ 0 < st.1.1 0 ∧ st.1.1 3 ≤ 40) = 0 from if_neg d] at e0
      refine moC_c (b := iI 0) (c := iI 2) ?_ R agr02b
      rw [e0]
      unfold f_X12_engrave_32
      simp (disch := omega) only [xI_le, xI_lt, xI_eq, xI_0, xI_ib, if_pos, if_neg, if_true, if_false, xI_cl, Int.toNat_natCast, iI_m, iI_a, iI_s, iI_1, xI_n, Option.bind_some, Int.natCast_add, Int.natCast_one, xI_zb, if_bI0, if_bI1, xI_rn, xI_ti, m_gB2]
  · rw [if_neg (fun z => c z.1), if_neg c]
    have ea := m_isLetter0 hv R.1.1 hi
    rw [show bI (0 ≤ i ∧ i ≤ (st.1.1 1 : Int) - 1) = 0 from if_neg c] at ea
    refine moC_c (b := iI 0) (c := iI 1) ?_ R agr02a
    unfold f_X12_engrave f_X12_engrave_32
    simp (disch := omega) only [xI_le, xI_lt, xI_eq, xI_0, xI_ib, if_pos, if_neg, if_true, if_false, xI_cl, Int.toNat_natCast, iI_m, iI_a, iI_s, iI_1, xI_n, Option.bind_some, Int.natCast_add, Int.natCast_one, xI_zb, if_bI0, if_bI1, xI_rn, xI_ti, ea, m_gB00]
def cAll (v : pv_T) : Bool := decide (cN (fun j => decide (v.2 6 j = 1)) (v.1 1) < v.1 1 ∧ 0 < v.1 0 ∧ v.1 3 ≤ 40)
def sEa (st : St) : St := if cAll st.1 = true then setPl (stK st) (enA 40 st.1 (st.1.1 1)).2 else st
def oEa (st : St) : Int32 ⊕ Nat := if cAll st.1 = true then .inl (iI (enA 40 st.1 (st.1.1 1)).1) else .inr 0
theorem sEa_ok (ok : Ok st) : Ok (sEa st) := by
  unfold sEa
  split
  · exact setPl_ok (stK_ok ok) (enA_A ok.1) (enA_S _).K
  · exact ok
theorem cAll_t {v : pv_T} (c : cAll v = true) : cN (fun j => decide (v.2 6 j = 1)) (v.1 1) < v.1 1 ∧ 0 < v.1 0 ∧ v.1 3 ≤ 40 := of_decide_eq_true c
theorem cAll_f {v : pv_T} (c : ¬ cAll v = true) : ¬ (cN (fun j => decide (v.2 6 j = 1)) (v.1 1) < v.1 1 ∧ 0 < v.1 0 ∧ v.1 3 ≤ 40) := fun z => c (decide_eq_true z)
theorem k_canPlanned {k : Nat} (hv : pv_ok v) (R : cl_pl h k v) : f_X5_canEngravePlanned k h = some (iI (bI (cAll v = true))) := by
  have h8 := hv.1
  have ea := k_engravedLetters hv R.2.1
  have eb := k_canAny (pvW_of hv) (by omega) R
  have hc := cN_le (fun j => decide (v.2 6 j = 1)) (v.1 1)
  unfold f_X5_canEngravePlanned
  by_cases c : cAll v = true
  · have c' := cAll_t c
    rw [show bI (cAll v = true) = 1 from if_pos c]
    rw [show bI (0 < v.1 0 ∧ v.1 3 ≤ 40) = 1 from if_pos c'.2] at eb
    generalize cN (fun j => decide (v.2 6 j = 1)) (v.1 1) = n at *
    simp (disch := omega) only [xI_le, xI_lt, xI_eq, xI_0, xI_ib, if_pos, if_neg, if_true, if_false, xI_cl, Int.toNat_natCast, iI_m, iI_a, iI_s, iI_1, xI_n, Option.bind_some, Int.natCast_add, Int.natCast_one, xI_zb, if_bI0, if_bI1, xI_rn, xI_ti, ea, R.2.1.1, eb]
  · have c' := cAll_f c
    rw [show bI (cAll v = true) = 0 from if_neg c]
    generalize cN (fun j => decide (v.2 6 j = 1)) (v.1 1) = n at *
    by_cases d : n < v.1 1
    · rw [show bI (0 < v.1 0 ∧ v.1 3 ≤ 40) = 0 from if_neg (fun z => c' ⟨d, z⟩)] at eb
      simp (disch := omega) only [xI_le, xI_lt, xI_eq, xI_0, xI_ib, if_pos, if_neg, if_true, if_false, xI_cl, Int.toNat_natCast, iI_m, iI_a, iI_s, iI_1, xI_n, Option.bind_some, Int.natCast_add, Int.natCast_one, xI_zb, if_bI0, if_bI1, xI_rn, xI_ti, ea, R.2.1.1, eb]
    · simp (disch := omega) only [xI_le, xI_lt, xI_eq, xI_0, xI_ib, if_pos, if_neg, if_true, if_false, xI_cl, Int.toNat_natCast, iI_m, iI_a, iI_s, iI_1, xI_n, Option.bind_some, Int.natCast_add, Int.natCast_one, xI_zb, if_bI0, if_bI1, xI_rn, xI_ti, ea, R.2.1.1]
theorem m_mayAll (hv : pv_ok v) (R : mo_pl h v) : f_X12_mayEngraveAll h = some (iI (bI (cAll v = true))) := by
  have h8 := hv.1
  have ea := m_engravedMany hv R
  have eb := m_mayEngrave hv R
  have hc := cN_le (fun j => decide (v.2 6 j = 1)) (v.1 1)
  unfold f_X12_mayEngraveAll
  by_cases c : cAll v = true
  · have c' := cAll_t c
    rw [show bI (cAll v = true) = 1 from if_pos c]
    rw [show bI (0 < v.1 0 ∧ v.1 3 ≤ 40) = 1 from if_pos c'.2] at eb
    generalize cN (fun j => decide (v.2 6 j = 1)) (v.1 1) = n at *
    simp (disch := omega) only [xI_le, xI_lt, xI_eq, xI_0, xI_ib, if_pos, if_neg, if_true, if_false, xI_cl, Int.toNat_natCast, iI_m, iI_a, iI_s, iI_1, xI_n, Option.bind_some, Int.natCast_add, Int.natCast_one, xI_zb, if_bI0, if_bI1, xI_rn, xI_ti, ea, Int.toNat_one, R.1.2.1, eb]
  · have c' := cAll_f c
    rw [show bI (cAll v = true) = 0 from if_neg c]
    generalize cN (fun j => decide (v.2 6 j = 1)) (v.1 1) = n at *
    by_cases d : n < v.1 1
    · rw [show bI (0 < v.1 0 ∧ v.1 3 ≤ 40) = 0 from if_neg (fun z => c' ⟨d, z⟩)] at eb
      simp (disch := omega) only [xI_le, xI_lt, xI_eq, xI_0, xI_ib, if_pos, if_neg, if_true, if_false, xI_cl, Int.toNat_natCast, iI_m, iI_a, iI_s, iI_1, xI_n, Option.bind_some, Int.natCast_add, Int.natCast_one, xI_zb, if_bI0, if_bI1, xI_rn, xI_ti, ea, Int.toNat_one, R.1.2.1, eb]
    · simp (disch := omega) only [xI_le, xI_lt, xI_eq, xI_0, xI_ib, if_pos, if_neg, if_true, if_false, xI_cl, Int.toNat_natCast, iI_m, iI_a, iI_s, iI_1, xI_n, Option.bind_some, Int.natCast_add, Int.natCast_one, xI_zb, if_bI0, if_bI1, xI_rn, xI_ti, ea, Int.toNat_one, R.1.2.1]
theorem cl_engraveAll (ok : Ok st) (R : ClR h st) : clC f_X11_engraveAll h (sEa st) (oEa st) := by
  have hv := ok.1.1
  have ea := k_canPlanned hv R.1
  unfold sEa oEa
  by_cases c : cAll st.1 = true
  · rw [if_pos c, if_pos c]
    rw [show bI (cAll st.1 = true) = 1 from if_pos c] at ea
    obtain ⟨h1, e1, C1, M1⟩ := cl_keep ok R
    obtain ⟨h2, e2, P2⟩ := k_engravePlanned (pvW_of hv) hv.1.2.2.2 (cAll_t c).2.1 (show cl_pl h1 0 st.1 from C1.1)
    refine clC_ch C1 M1 (wr_X5_engravePlanned e2) (by simp) P2 ?_
    unfold f_X11_engraveAll
    simp (disch := omega) only [xI_le, xI_lt, xI_eq, xI_0, xI_ib, if_pos, if_neg, if_true, if_false, xI_cl, Int.toNat_natCast, iI_m, iI_a, iI_s, iI_1, xI_n, Option.bind_some, Int.natCast_add, Int.natCast_one, xI_zb, if_bI0, if_bI1, xI_rn, xI_ti, ea, e1, e2]
  · rw [if_neg c, if_neg c]
    rw [show bI (cAll st.1 = true) = 0 from if_neg c] at ea
    refine clC_w (h1 := h) ?_ (Wr.rf (L := [])) rfl rfl R
    unfold f_X11_engraveAll
    simp (disch := omega) only [xI_le, xI_lt, xI_eq, xI_0, xI_ib, if_pos, if_neg, if_true, if_false, xI_cl, Int.toNat_natCast, iI_m, iI_a, iI_s, iI_1, xI_n, Option.bind_some, Int.natCast_add, Int.natCast_one, xI_zb, if_bI0, if_bI1, xI_rn, xI_ti, ea]
theorem mo_engraveAll (ok : Ok st) (R : MoR h st) : moC f_X12_engraveAll h (sEa st) (oEa st) ex0 := by
  have hv := ok.1.1
  have ea := m_mayAll hv R.1.1
  unfold sEa oEa
  by_cases c : cAll st.1 = true
  · rw [if_pos c, if_pos c]
    rw [show bI (cAll st.1 = true) = 1 from if_pos c] at ea
    obtain ⟨h', e, M, C, z⟩ := mo_change (m1 := f_X12_engravesAll (iI 40)) (v := (enA 40 st.1 (st.1.1 1)).2) (x := iI (enA 40 st.1 (st.1.1 1)).1) ok R (enA_S _).K (fun s P => by
      obtain ⟨s', e, P'⟩ := m_engravesAll (lim := 40) (pvW_of hv) (by omega) hv.1.2.2.2 P
      exact ⟨s', e, P', wr_X12_engravesAll e⟩)
    refine moC_ch ?_ M C z
    unfold f_X12_engraveAll
    rw [ea, Option.bind_some, m_goes1, Option.bind_some]
    exact (if_neg (show ¬ (iI 1 : Int32) = 0 by decide)).trans e
  · rw [if_neg c, if_neg c]
    rw [show bI (cAll st.1 = true) = 0 from if_neg c] at ea
    refine moC_c (b := iI 0) (c := iI 1) ?_ R agr0
    unfold f_X12_engraveAll
    simp (disch := omega) only [xI_le, xI_lt, xI_eq, xI_0, xI_ib, if_pos, if_neg, if_true, if_false, xI_cl, Int.toNat_natCast, iI_m, iI_a, iI_s, iI_1, xI_n, Option.bind_some, Int.natCast_add, Int.natCast_one, xI_zb, if_bI0, if_bI1, xI_rn, xI_ti, ea, m_goes0]
end ENV
