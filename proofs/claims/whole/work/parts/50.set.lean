/-! settings, arcs, letters, scratches: told by both sides -/
section SET
variable {h : am_H} {v : pv_T}
theorem k_spoiledLetters (hv : pv_ok v) (P : cl_pl h 0 v) : ∃ h', f_X11_spoiledLetters h = some (iI (cN (fun j => decide (pv_iS v j)) (v.1 1)), h') ∧ Wr [(.inl 1, 4), (.inl 1, 3)] h h' := by
  have h8 := hv.1
  obtain ⟨hm, em, Rl⟩ := k_measure hv P.1 P.2.1
  have wm := wr_X3_measure em
  have Pm := P.eq (wm.P (k := 0) (by simp))
  refine ⟨hm, ?_, wm⟩
  have s := ch_to (fun i : Nat => f_X11_spoiledLetters_15 (iI (cN (fun j => decide (pv_iS v j)) i)) (iI i) hm) (Nat.zero_le (v.1 1)) (fun i _ hi => by
    show f_X11_spoiledLetters_15 _ _ _ = f_X11_spoiledLetters_15 _ _ _
    rw [e_X11_spoiledLetters_15]
    by_cases c : pv_iS v i
    · rw [cN_t (by simpa using c)]
      simp (disch := omega) only [xI_le, xI_lt, xI_eq, xI_0, xI_ib, if_pos, if_neg, if_true, if_false, xI_cl, Int.toNat_natCast, iI_m, iI_a, iI_s, iI_1, xI_n, Option.bind_some, Int.natCast_add, Int.natCast_one, xI_zb, if_bI0, if_bI1, xI_rn, xI_ti, Pm.2.1.1, k_isSpoiled hv Pm.2.1 Pm.2.2.2.2.1 Rl (l := i) (by omega), if_pos c]
    · rw [cN_f (by simpa using c)]
      simp (disch := omega) only [xI_le, xI_lt, xI_eq, xI_0, xI_ib, if_pos, if_neg, if_true, if_false, xI_cl, Int.toNat_natCast, iI_m, iI_a, iI_s, iI_1, xI_n, Option.bind_some, Int.natCast_add, Int.natCast_one, xI_zb, if_bI0, if_bI1, xI_rn, xI_ti, Pm.2.1.1, k_isSpoiled hv Pm.2.1 Pm.2.2.2.2.1 Rl (l := i) (by omega), if_neg c])
  unfold f_X11_spoiledLetters
  rw [em, Option.bind_some]
  refine Eq.trans s ?_
  show f_X11_spoiledLetters_15 _ _ _ = _
  rw [e_X11_spoiledLetters_15]
  simp (disch := omega) only [xI_le, xI_lt, xI_eq, xI_0, xI_ib, if_pos, if_neg, if_true, if_false, xI_cl, Int.toNat_natCast, iI_m, iI_a, iI_s, iI_1, xI_n, Option.bind_some, Int.natCast_add, Int.natCast_one, xI_zb, if_bI0, if_bI1, xI_rn, xI_ti, Pm.2.1.1]
theorem m_engravedMany (hv : pv_ok v) (R : mo_pl h v) : f_X12_engravedMany h = some (iI (cN (fun j => decide (v.2 6 j = 1)) (v.1 1))) := by
  have h8 := hv.1
  have s := ch_to (fun i : Nat => f_X12_engravedMany_4 (iI (cN (fun j => decide (v.2 6 j = 1)) i)) (iI i) h) (Nat.zero_le (v.1 1)) (fun i _ hi => by
    show f_X12_engravedMany_4 _ _ _ = f_X12_engravedMany_4 _ _ _
    have h1 := hv.2.2.1 i hi
    rw [e_X12_engravedMany_4]
    by_cases c : v.2 6 i = 1
    · rw [cN_t (by simp [c])]
      simp (disch := omega) only [xI_le, xI_lt, xI_eq, xI_0, xI_ib, if_pos, if_neg, if_true, if_false, xI_cl, Int.toNat_natCast, iI_m, iI_a, iI_s, iI_1, xI_n, Option.bind_some, Int.natCast_add, Int.natCast_one, xI_zb, if_bI0, if_bI1, xI_rn, xI_ti, Int.toNat_one, R.1.2.1, m_ofL1 hv R hi, c]
    · rw [cN_f (by simp [c])]
      simp (disch := omega) only [xI_le, xI_lt, xI_eq, xI_0, xI_ib, if_pos, if_neg, if_true, if_false, xI_cl, Int.toNat_natCast, iI_m, iI_a, iI_s, iI_1, xI_n, Option.bind_some, Int.natCast_add, Int.natCast_one, xI_zb, if_bI0, if_bI1, xI_rn, xI_ti, Int.toNat_one, R.1.2.1, m_ofL1 hv R hi, show v.2 6 i = 0 from by omega, Int.add_zero])
  refine Eq.trans s ?_
  show f_X12_engravedMany_4 _ _ _ = _
  rw [e_X12_engravedMany_4]
  simp (disch := omega) only [xI_le, xI_lt, xI_eq, xI_0, xI_ib, if_pos, if_neg, if_true, if_false, xI_cl, Int.toNat_natCast, iI_m, iI_a, iI_s, iI_1, xI_n, Option.bind_some, Int.natCast_add, Int.natCast_one, xI_zb, if_bI0, if_bI1, xI_rn, xI_ti, Int.toNat_one, R.1.2.1]
theorem m_spoiledMany (hv : pv_ok v) (R : mo_pl h v) : f_X12_spoiledMany h = some (iI (cN (fun j => decide (pv_iS v j)) (v.1 1))) := by
  have h8 := hv.1
  have s := ch_to (fun i : Nat => f_X12_spoiledMany_4 (iI (cN (fun j => decide (pv_iS v j)) i)) (iI i) h) (Nat.zero_le (v.1 1)) (fun i _ hi => by
    show f_X12_spoiledMany_4 _ _ _ = f_X12_spoiledMany_4 _ _ _
    rw [e_X12_spoiledMany_4]
    by_cases c : pv_iS v i
    · rw [cN_t (by simpa using c)]
      simp (disch := omega) only [xI_le, xI_lt, xI_eq, xI_0, xI_ib, if_pos, if_neg, if_true, if_false, xI_cl, Int.toNat_natCast, iI_m, iI_a, iI_s, iI_1, xI_n, Option.bind_some, Int.natCast_add, Int.natCast_one, xI_zb, if_bI0, if_bI1, xI_rn, xI_ti, Int.toNat_one, R.1.2.1, m_isSpoiled hv R (l := i) (by omega), if_pos c, m_truth1]
    · rw [cN_f (by simpa using c)]
      simp (disch := omega) only [xI_le, xI_lt, xI_eq, xI_0, xI_ib, if_pos, if_neg, if_true, if_false, xI_cl, Int.toNat_natCast, iI_m, iI_a, iI_s, iI_1, xI_n, Option.bind_some, Int.natCast_add, Int.natCast_one, xI_zb, if_bI0, if_bI1, xI_rn, xI_ti, Int.toNat_one, R.1.2.1, m_isSpoiled hv R (l := i) (by omega), if_neg c, m_truth0, Int.add_zero])
  refine Eq.trans s ?_
  show f_X12_spoiledMany_4 _ _ _ = _
  rw [e_X12_spoiledMany_4]
  simp (disch := omega) only [xI_le, xI_lt, xI_eq, xI_0, xI_ib, if_pos, if_neg, if_true, if_false, xI_cl, Int.toNat_natCast, iI_m, iI_a, iI_s, iI_1, xI_n, Option.bind_some, Int.natCast_add, Int.natCast_one, xI_zb, if_bI0, if_bI1, xI_rn, xI_ti, Int.toNat_one, R.1.2.1]
end SET
section SEU
variable {h : am_H} {st : St}
def oSet (st : St) (t : Int) : Int32 ⊕ Nat := if t = 0 then .inl (iI (st.1.1 0)) else if t = 1 then .inl (iI (st.1.1 1)) else if t = 2 then .inl (iI (st.1.1 2)) else if t = 3 then .inl (iI (pv_wT st.1)) else if t = 4 then .inl (iI (pv_wP st.1)) else if t = 5 then .inl (iI (st.1.2 0 0)) else if t = 6 then .inl (iI (st.1.2 0 1)) else if t = 7 then .inl (iI (st.1.1 3)) else if t = 8 then .inl (iI (cN (fun j => decide (st.1.2 6 j = 1)) (st.1.1 1))) else if t = 9 then .inl (iI (cN (fun j => decide (pv_iS st.1 j)) (st.1.1 1))) else if t = 10 then .inl (iI (st.1.2 0 2)) else if t = 11 then .inl (iI (st.1.2 0 3)) else if t = 12 then .inl (iI (st.1.2 0 4)) else if t = 13 then .inl (iI st.2.2.1.1) else .inr 1
theorem cl_setting (ok : Ok st) (R : ClR h st) {t : Int} (ht : -2147483648 ≤ t ∧ t < 2147483648) : clC (f_X11_setting (iI t)) h st (oSet st t) := by
  have hv := ok.1.1
  rcases (show t = 0 ∨ t = 1 ∨ t = 2 ∨ t = 3 ∨ t = 4 ∨ t = 5 ∨ t = 6 ∨ t = 7 ∨ t = 8 ∨ t = 9 ∨ t = 10 ∨ t = 11 ∨ t = 12 ∨ t = 13 ∨ (t < 0 ∨ 13 < t) by omega) with rfl | rfl | rfl | rfl | rfl | rfl | rfl | rfl | rfl | rfl | rfl | rfl | rfl | rfl | c
  · refine clC_w (h1 := h) ?_ (Wr.rf (L := [])) rfl rfl R
    unfold f_X11_setting
    simp (disch := omega) only [xI_le, xI_lt, xI_eq, xI_0, xI_ib, if_pos, if_neg, if_true, if_false, xI_cl, Int.toNat_natCast, iI_m, iI_a, iI_s, iI_1, xI_n, Option.bind_some, Int.natCast_add, Int.natCast_one, xI_zb, if_bI0, if_bI1, xI_rn, xI_ti, R.1.1.1]
    rfl
  · refine clC_w (h1 := h) ?_ (Wr.rf (L := [])) rfl rfl R
    unfold f_X11_setting
    simp (disch := omega) only [xI_le, xI_lt, xI_eq, xI_0, xI_ib, if_pos, if_neg, if_true, if_false, xI_cl, Int.toNat_natCast, iI_m, iI_a, iI_s, iI_1, xI_n, Option.bind_some, Int.natCast_add, Int.natCast_one, xI_zb, if_bI0, if_bI1, xI_rn, xI_ti, R.1.2.1.1]
    rfl
  · refine clC_w (h1 := h) ?_ (Wr.rf (L := [])) rfl rfl R
    unfold f_X11_setting
    simp (disch := omega) only [xI_le, xI_lt, xI_eq, xI_0, xI_ib, if_pos, if_neg, if_true, if_false, xI_cl, Int.toNat_natCast, iI_m, iI_a, iI_s, iI_1, xI_n, Option.bind_some, Int.natCast_add, Int.natCast_one, xI_zb, if_bI0, if_bI1, xI_rn, xI_ti, R.1.2.2.1.1]
    rfl
  · refine clC_w (h1 := h) ?_ (Wr.rf (L := [])) rfl rfl R
    unfold f_X11_setting
    simp (disch := omega) only [xI_le, xI_lt, xI_eq, xI_0, xI_ib, if_pos, if_neg, if_true, if_false, xI_cl, Int.toNat_natCast, iI_m, iI_a, iI_s, iI_1, xI_n, Option.bind_some, Int.natCast_add, Int.natCast_one, xI_zb, if_bI0, if_bI1, xI_rn, xI_ti, k_wholeTurn hv R.1.1]
    rfl
  · refine clC_w (h1 := h) ?_ (Wr.rf (L := [])) rfl rfl R
    unfold f_X11_setting
    simp (disch := omega) only [xI_le, xI_lt, xI_eq, xI_0, xI_ib, if_pos, if_neg, if_true, if_false, xI_cl, Int.toNat_natCast, iI_m, iI_a, iI_s, iI_1, xI_n, Option.bind_some, Int.natCast_add, Int.natCast_one, xI_zb, if_bI0, if_bI1, xI_rn, xI_ti, k_wholeParts hv R.1.1]
    rfl
  · refine clC_w (h1 := h) ?_ (Wr.rf (L := [])) rfl rfl R
    unfold f_X11_setting
    simp (disch := omega) only [xI_le, xI_lt, xI_eq, xI_0, xI_ib, if_pos, if_neg, if_true, if_false, xI_cl, Int.toNat_natCast, iI_m, iI_a, iI_s, iI_1, xI_n, Option.bind_some, Int.natCast_add, Int.natCast_one, xI_zb, if_bI0, if_bI1, xI_rn, xI_ti, R.1.2.2.2.1.1]
    rfl
  · refine clC_w (h1 := h) ?_ (Wr.rf (L := [])) rfl rfl R
    unfold f_X11_setting
    simp (disch := omega) only [xI_le, xI_lt, xI_eq, xI_0, xI_ib, if_pos, if_neg, if_true, if_false, xI_cl, Int.toNat_natCast, iI_m, iI_a, iI_s, iI_1, xI_n, Option.bind_some, Int.natCast_add, Int.natCast_one, xI_zb, if_bI0, if_bI1, xI_rn, xI_ti, R.1.2.2.2.2.2]
    rfl
  · refine clC_w (h1 := h) ?_ (Wr.rf (L := [])) rfl rfl R
    unfold f_X11_setting
    simp (disch := omega) only [xI_le, xI_lt, xI_eq, xI_0, xI_ib, if_pos, if_neg, if_true, if_false, xI_cl, Int.toNat_natCast, iI_m, iI_a, iI_s, iI_1, xI_n, Option.bind_some, Int.natCast_add, Int.natCast_one, xI_zb, if_bI0, if_bI1, xI_rn, xI_ti, R.1.2.2.2.2.1.1]
    rfl
  · refine clC_w (h1 := h) ?_ (Wr.rf (L := [])) rfl rfl R
    unfold f_X11_setting
    simp (disch := omega) only [xI_le, xI_lt, xI_eq, xI_0, xI_ib, if_pos, if_neg, if_true, if_false, xI_cl, Int.toNat_natCast, iI_m, iI_a, iI_s, iI_1, xI_n, Option.bind_some, Int.natCast_add, Int.natCast_one, xI_zb, if_bI0, if_bI1, xI_rn, xI_ti, k_engravedLetters hv R.1.2.1]
    rfl
  · obtain ⟨h1, e1, w1⟩ := k_spoiledLetters hv R.1
    refine clC_w (h1 := h1) ?_ w1 rfl rfl R
    unfold f_X11_setting
    simp (disch := omega) only [xI_le, xI_lt, xI_eq, xI_0, xI_ib, if_pos, if_neg, if_true, if_false, xI_cl, Int.toNat_natCast, iI_m, iI_a, iI_s, iI_1, xI_n, Option.bind_some, Int.natCast_add, Int.natCast_one, xI_zb, if_bI0, if_bI1, xI_rn, xI_ti, e1]
    rfl
  · refine clC_w (h1 := h) ?_ (Wr.rf (L := [])) rfl rfl R
    unfold f_X11_setting
    simp (disch := omega) only [xI_le, xI_lt, xI_eq, xI_0, xI_ib, if_pos, if_neg, if_true, if_false, xI_cl, Int.toNat_natCast, iI_m, iI_a, iI_s, iI_1, xI_n, Option.bind_some, Int.natCast_add, Int.natCast_one, xI_zb, if_bI0, if_bI1, xI_rn, xI_ti, R.1.2.2.2.1.2.1]
    rfl
  · refine clC_w (h1 := h) ?_ (Wr.rf (L := [])) rfl rfl R
    unfold f_X11_setting
    simp (disch := omega) only [xI_le, xI_lt, xI_eq, xI_0, xI_ib, if_pos, if_neg, if_true, if_false, xI_cl, Int.toNat_natCast, iI_m, iI_a, iI_s, iI_1, xI_n, Option.bind_some, Int.natCast_add, Int.natCast_one, xI_zb, if_bI0, if_bI1, xI_rn, xI_ti, R.1.2.2.2.1.2.2.1]
    rfl
  · refine clC_w (h1 := h) ?_ (Wr.rf (L := [])) rfl rfl R
    unfold f_X11_setting
    simp (disch := omega) only [xI_le, xI_lt, xI_eq, xI_0, xI_ib, if_pos, if_neg, if_true, if_false, xI_cl, Int.toNat_natCast, iI_m, iI_a, iI_s, iI_1, xI_n, Option.bind_some, Int.natCast_add, Int.natCast_one, xI_zb, if_bI0, if_bI1, xI_rn, xI_ti, R.1.2.2.2.1.2.2.2]
    rfl
  · refine clC_w (h1 := h) ?_ (Wr.rf (L := [])) rfl rfl R
    unfold f_X11_setting
    simp (disch := omega) only [xI_le, xI_lt, xI_eq, xI_0, xI_ib, if_pos, if_neg, if_true, if_false, xI_cl, Int.toNat_natCast, iI_m, iI_a, iI_s, iI_1, xI_n, Option.bind_some, Int.natCast_add, Int.natCast_one, xI_zb, if_bI0, if_bI1, xI_rn, xI_ti, R.2.2.1.1]
    rfl
  · refine clC_w (h1 := h) ?_ (Wr.rf (L := [])) rfl rfl R
    unfold f_X11_setting oSet
    simp (disch := omega) only [xI_le, xI_lt, xI_eq, xI_0, xI_ib, if_pos, if_neg, if_true, if_false, xI_cl, Int.toNat_natCast, iI_m, iI_a, iI_s, iI_1, xI_n, Option.bind_some, Int.natCast_add, Int.natCast_one, xI_zb, if_bI0, if_bI1, xI_rn, xI_ti]
theorem mo_setting (ok : Ok st) (R : MoR h st) {t : Int} (ht : -2147483648 ≤ t ∧ t < 2147483648) : moC (f_X12_setting (iI t)) h st (oSet st t) ex1 := by
  have hv := ok.1.1
  have Rc : mo_pl (am_u h (.inl 0) 0 0 (iI 0)) st.1 := mo_code R.1.1
  have hz : (13 : Int64).toInt = 13 := rfl
  rcases (show t = 0 ∨ t = 1 ∨ t = 2 ∨ t = 3 ∨ t = 4 ∨ t = 5 ∨ t = 6 ∨ t = 7 ∨ t = 8 ∨ t = 9 ∨ t = 10 ∨ t = 11 ∨ t = 12 ∨ t = 13 ∨ (t < 0 ∨ 13 < t) by omega) with rfl | rfl | rfl | rfl | rfl | rfl | rfl | rfl | rfl | rfl | rfl | rfl | rfl | rfl | c
  · refine moC_c (b := iI (st.1.1 0)) (c := iI 0) ?_ R agrv
    unfold f_X12_setting
    simp (disch := omega) only [xI_le, xI_lt, xI_eq, xI_0, xI_ib, if_pos, if_neg, if_true, if_false, xI_cl, Int.toNat_natCast, iI_m, iI_a, iI_s, iI_1, xI_n, Option.bind_some, Int.natCast_add, Int.natCast_one, xI_zb, if_bI0, if_bI1, xI_rn, xI_ti, m_isInz (n := 0) hz (by omega), m_goes1, show (0 : Int).toNat = 0 from rfl, Rc.1.1]
  · refine moC_c (b := iI (st.1.1 1)) (c := iI 0) ?_ R agrv
    unfold f_X12_setting
    simp (disch := omega) only [xI_le, xI_lt, xI_eq, xI_0, xI_ib, if_pos, if_neg, if_true, if_false, xI_cl, Int.toNat_natCast, iI_m, iI_a, iI_s, iI_1, xI_n, Option.bind_some, Int.natCast_add, Int.natCast_one, xI_zb, if_bI0, if_bI1, xI_rn, xI_ti, m_isInz (n := 1) hz (by omega), m_goes1, show (1 : Int).toNat = 1 from rfl, Rc.1.2.1]
  · refine moC_c (b := iI (st.1.1 2)) (c := iI 0) ?_ R agrv
    unfold f_X12_setting
    simp (disch := omega) only [xI_le, xI_lt, xI_eq, xI_0, xI_ib, if_pos, if_neg, if_true, if_false, xI_cl, Int.toNat_natCast, iI_m, iI_a, iI_s, iI_1, xI_n, Option.bind_some, Int.natCast_add, Int.natCast_one, xI_zb, if_bI0, if_bI1, xI_rn, xI_ti, m_isInz (n := 2) hz (by omega), m_goes1, show (2 : Int).toNat = 2 from rfl, Rc.1.2.2.1]
  · refine moC_c (b := iI (pv_wT st.1)) (c := iI 0) ?_ R agrv
    unfold f_X12_setting
    simp (disch := omega) only [xI_le, xI_lt, xI_eq, xI_0, xI_ib, if_pos, if_neg, if_true, if_false, xI_cl, Int.toNat_natCast, iI_m, iI_a, iI_s, iI_1, xI_n, Option.bind_some, Int.natCast_add, Int.natCast_one, xI_zb, if_bI0, if_bI1, xI_rn, xI_ti, m_isInz (n := 3) hz (by omega), m_goes1, m_wholeTurn hv Rc]
  · refine moC_c (b := iI (pv_wP st.1)) (c := iI 0) ?_ R agrv
    unfold f_X12_setting
    simp (disch := omega) only [xI_le, xI_lt, xI_eq, xI_0, xI_ib, if_pos, if_neg, if_true, if_false, xI_cl, Int.toNat_natCast, iI_m, iI_a, iI_s, iI_1, xI_n, Option.bind_some, Int.natCast_add, Int.natCast_one, xI_zb, if_bI0, if_bI1, xI_rn, xI_ti, m_isInz (n := 4) hz (by omega), m_goes1, m_wholeParts hv Rc]
  · refine moC_c (b := iI (st.1.2 0 0)) (c := iI 0) ?_ R agrv
    unfold f_X12_setting
    simp (disch := omega) only [xI_le, xI_lt, xI_eq, xI_0, xI_ib, if_pos, if_neg, if_true, if_false, xI_cl, Int.toNat_natCast, iI_m, iI_a, iI_s, iI_1, xI_n, Option.bind_some, Int.natCast_add, Int.natCast_one, xI_zb, if_bI0, if_bI1, xI_rn, xI_ti, m_isInz (n := 5) hz (by omega), m_goes1, show (3 : Int).toNat = 3 from rfl, Rc.1.2.2.2.1]
  · refine moC_c (b := iI (st.1.2 0 1)) (c := iI 0) ?_ R agrv
    unfold f_X12_setting
    simp (disch := omega) only [xI_le, xI_lt, xI_eq, xI_0, xI_ib, if_pos, if_neg, if_true, if_false, xI_cl, Int.toNat_natCast, iI_m, iI_a, iI_s, iI_1, xI_n, Option.bind_some, Int.natCast_add, Int.natCast_one, xI_zb, if_bI0, if_bI1, xI_rn, xI_ti, m_isInz (n := 6) hz (by omega), m_goes1, show (4 : Int).toNat = 4 from rfl, Rc.1.2.2.2.2.1]
  · refine moC_c (b := iI (st.1.1 3)) (c := iI 0) ?_ R agrv
    unfold f_X12_setting
    simp (disch := omega) only [xI_le, xI_lt, xI_eq, xI_0, xI_ib, if_pos, if_neg, if_true, if_false, xI_cl, Int.toNat_natCast, iI_m, iI_a, iI_s, iI_1, xI_n, Option.bind_some, Int.natCast_add, Int.natCast_one, xI_zb, if_bI0, if_bI1, xI_rn, xI_ti, m_isInz (n := 7) hz (by omega), m_goes1, show (8 : Int).toNat = 8 from rfl, Rc.1.2.2.2.2.2.2.2.2]
  · refine moC_c (b := iI (cN (fun j => decide (st.1.2 6 j = 1)) (st.1.1 1))) (c := iI 0) ?_ R agrv
    unfold f_X12_setting
    simp (disch := omega) only [xI_le, xI_lt, xI_eq, xI_0, xI_ib, if_pos, if_neg, if_true, if_false, xI_cl, Int.toNat_natCast, iI_m, iI_a, iI_s, iI_1, xI_n, Option.bind_some, Int.natCast_add, Int.natCast_one, xI_zb, if_bI0, if_bI1, xI_rn, xI_ti, m_isInz (n := 8) hz (by omega), m_goes1, m_engravedMany hv Rc]
  · refine moC_c (b := iI (cN (fun j => decide (pv_iS st.1 j)) (st.1.1 1))) (c := iI 0) ?_ R agrv
    unfold f_X12_setting
    simp (disch := omega) only [xI_le, xI_lt, xI_eq, xI_0, xI_ib, if_pos, if_neg, if_true, if_false, xI_cl, Int.toNat_natCast, iI_m, iI_a, iI_s, iI_1, xI_n, Option.bind_some, Int.natCast_add, Int.natCast_one, xI_zb, if_bI0, if_bI1, xI_rn, xI_ti, m_isInz (n := 9) hz (by omega), m_goes1, m_spoiledMany hv Rc]
  · refine moC_c (b := iI (st.1.2 0 2)) (c := iI 0) ?_ R agrv
    unfold f_X12_setting
    simp (disch := omega) only [xI_le, xI_lt, xI_eq, xI_0, xI_ib, if_pos, if_neg, if_true, if_false, xI_cl, Int.toNat_natCast, iI_m, iI_a, iI_s, iI_1, xI_n, Option.bind_some, Int.natCast_add, Int.natCast_one, xI_zb, if_bI0, if_bI1, xI_rn, xI_ti, m_isInz (n := 10) hz (by omega), m_goes1, show (5 : Int).toNat = 5 from rfl, Rc.1.2.2.2.2.2.1]
  · refine moC_c (b := iI (st.1.2 0 3)) (c := iI 0) ?_ R agrv
    unfold f_X12_setting
    simp (disch := omega) only [xI_le, xI_lt, xI_eq, xI_0, xI_ib, if_pos, if_neg, if_true, if_false, xI_cl, Int.toNat_natCast, iI_m, iI_a, iI_s, iI_1, xI_n, Option.bind_some, Int.natCast_add, Int.natCast_one, xI_zb, if_bI0, if_bI1, xI_rn, xI_ti, m_isInz (n := 11) hz (by omega), m_goes1, show (6 : Int).toNat = 6 from rfl, Rc.1.2.2.2.2.2.2.1]
  · refine moC_c (b := iI (st.1.2 0 4)) (c := iI 0) ?_ R agrv
    unfold f_X12_setting
    simp (disch := omega) only [xI_le, xI_lt, xI_eq, xI_0, xI_ib, if_pos, if_neg, if_true, if_false, xI_cl, Int.toNat_natCast, iI_m, iI_a, iI_s, iI_1, xI_n, Option.bind_some, Int.natCast_add, Int.natCast_one, xI_zb, if_bI0, if_bI1, xI_rn, xI_ti, m_isInz (n := 12) hz (by omega), m_goes1, show (7 : Int).toNat = 7 from rfl, Rc.1.2.2.2.2.2.2.2.1]
  · refine moC_c (b := iI st.2.2.1.1) (c := iI 0) ?_ R agrv
    unfold f_X12_setting
    simp (disch := omega) only [xI_le, xI_lt, xI_eq, xI_0, xI_ib, if_pos, if_neg, if_true, if_false, xI_cl, Int.toNat_natCast, iI_m, iI_a, iI_s, iI_1, xI_n, Option.bind_some, Int.natCast_add, Int.natCast_one, xI_zb, if_bI0, if_bI1, xI_rn, xI_ti, m_isInz (n := 13) hz (by omega), m_goes1, au_s, R.2.2.1.1]
  · rw [show oSet st t = .inr 1 by unfold oSet; simp (disch := omega) only [xI_le, xI_lt, xI_eq, xI_0, xI_ib, if_pos, if_neg, if_true, if_false, xI_cl, Int.toNat_natCast, iI_m, iI_a, iI_s, iI_1, xI_n, Option.bind_some, Int.natCast_add, Int.natCast_one, xI_zb, if_bI0, if_bI1, xI_rn, xI_ti]]
    refine moC_c (b := iI 0) (c := iI 1) ?_ R agr1
    unfold f_X12_setting
    simp (disch := omega) only [xI_le, xI_lt, xI_eq, xI_0, xI_ib, if_pos, if_neg, if_true, if_false, xI_cl, Int.toNat_natCast, iI_m, iI_a, iI_s, iI_1, xI_n, Option.bind_some, Int.natCast_add, Int.natCast_one, xI_zb, if_bI0, if_bI1, xI_rn, xI_ti, m_isInz (n := t) hz ht, m_goes0]
def oArc (st : St) (a t : Int) : Int32 ⊕ Nat := if 0 ≤ a ∧ a ≤ (st.1.1 0 : Int) - 1 then (if t = 0 then .inl (iI (st.1.2 1 a.toNat)) else if t = 1 then .inl (iI (st.1.2 2 a.toNat)) else if t = 2 then .inl (iI (st.1.2 3 a.toNat)) else if t = 3 then .inl (iI (st.1.2 4 a.toNat)) else if t = 4 then .inl (iI (pv_tA st.1 a.toNat)) else if t = 5 then .inl (iI (pv_pA st.1 a.toNat)) else if t = 6 then .inl (iI (cN (fun j => decide (pv_ar st.1 (pv_ct st.1 j) = a)) (st.1.1 1))) else .inr 1) else .inr 2
theorem cl_arc (ok : Ok st) (R : ClR h st) {a t : Int} (ha : -2147483648 ≤ a ∧ a < 2147483648) (ht : -2147483648 ≤ t ∧ t < 2147483648) : clC (fun h => (f_X11_arc (iI a) (iI t) h).map (fun a => (a, h))) h st (oArc st a t) := by
  have hv := ok.1.1
  have h8 := hv.1
  refine clC_r ?_ R
  unfold f_X11_arc oArc
  by_cases c : 0 ≤ a ∧ a ≤ (st.1.1 0 : Int) - 1
  · obtain ⟨n, rfl⟩ : ∃ n : Nat, a = n := ⟨a.toNat, by omega⟩
    have hn : n < st.1.1 0 := by omega
    have hr := R.1.1.2 n hn
    have hc := hv.2.1 n hn
    rw [if_pos c]
    rcases (show t = 0 ∨ t = 1 ∨ t = 2 ∨ t = 3 ∨ t = 4 ∨ t = 5 ∨ t = 6 ∨ (t < 0 ∨ 6 < t) by omega) with rfl | rfl | rfl | rfl | rfl | rfl | rfl | d
    · simp (disch := omega) only [xI_le, xI_lt, xI_eq, xI_0, xI_ib, if_pos, if_neg, if_true, if_false, xI_cl, Int.toNat_natCast, iI_m, iI_a, iI_s, iI_1, xI_n, Option.bind_some, Int.natCast_add, Int.natCast_one, xI_zb, if_bI0, if_bI1, xI_rn, xI_ti, k_hasArc hv R.1.1 ha, hr.1]
    · simp (disch := omega) only [xI_le, xI_lt, xI_eq, xI_0, xI_ib, if_pos, if_neg, if_true, if_false, xI_cl, Int.toNat_natCast, iI_m, iI_a, iI_s, iI_1, xI_n, Option.bind_some, Int.natCast_add, Int.natCast_one, xI_zb, if_bI0, if_bI1, xI_rn, xI_ti, k_hasArc hv R.1.1 ha, hr.2.1]
    · by_cases q : st.1.2 3 n = 0
      · simp (disch := omega) only [xI_le, xI_lt, xI_eq, xI_0, xI_ib, if_pos, if_neg, if_true, if_false, xI_cl, Int.toNat_natCast, iI_m, iI_a, iI_s, iI_1, xI_n, Option.bind_some, Int.natCast_add, Int.natCast_one, xI_zb, if_bI0, if_bI1, xI_rn, xI_ti, k_hasArc hv R.1.1 ha, hr.2.2.2, q]
      · simp (disch := omega) only [xI_le, xI_lt, xI_eq, xI_0, xI_ib, if_pos, if_neg, if_true, if_false, xI_cl, Int.toNat_natCast, iI_m, iI_a, iI_s, iI_1, xI_n, Option.bind_some, Int.natCast_add, Int.natCast_one, xI_zb, if_bI0, if_bI1, xI_rn, xI_ti, k_hasArc hv R.1.1 ha, hr.2.2.2, show st.1.2 3 n = 1 from by omega]
    · simp (disch := omega) only [xI_le, xI_lt, xI_eq, xI_0, xI_ib, if_pos, if_neg, if_true, if_false, xI_cl, Int.toNat_natCast, iI_m, iI_a, iI_s, iI_1, xI_n, Option.bind_some, Int.natCast_add, Int.natCast_one, xI_zb, if_bI0, if_bI1, xI_rn, xI_ti, k_hasArc hv R.1.1 ha, hr.2.2.1]
    · simp (disch := omega) only [xI_le, xI_lt, xI_eq, xI_0, xI_ib, if_pos, if_neg, if_true, if_false, xI_cl, Int.toNat_natCast, iI_m, iI_a, iI_s, iI_1, xI_n, Option.bind_some, Int.natCast_add, Int.natCast_one, xI_zb, if_bI0, if_bI1, xI_rn, xI_ti, k_hasArc hv R.1.1 ha, k_turnAhead hv R.1.1 (n := n) (by omega)]
    · simp (disch := omega) only [xI_le, xI_lt, xI_eq, xI_0, xI_ib, if_pos, if_neg, if_true, if_false, xI_cl, Int.toNat_natCast, iI_m, iI_a, iI_s, iI_1, xI_n, Option.bind_some, Int.natCast_add, Int.natCast_one, xI_zb, if_bI0, if_bI1, xI_rn, xI_ti, k_hasArc hv R.1.1 ha, k_partsAhead hv R.1.1 (n := n) (by omega)]
    · simp (disch := omega) only [xI_le, xI_lt, xI_eq, xI_0, xI_ib, if_pos, if_neg, if_true, if_false, xI_cl, Int.toNat_natCast, iI_m, iI_a, iI_s, iI_1, xI_n, Option.bind_some, Int.natCast_add, Int.natCast_one, xI_zb, if_bI0, if_bI1, xI_rn, xI_ti, k_hasArc hv R.1.1 ha, k_centresOn hv R.1.1 R.1.2.1 (a := n) ha]
    · simp (disch := omega) only [xI_le, xI_lt, xI_eq, xI_0, xI_ib, if_pos, if_neg, if_true, if_false, xI_cl, Int.toNat_natCast, iI_m, iI_a, iI_s, iI_1, xI_n, Option.bind_some, Int.natCast_add, Int.natCast_one, xI_zb, if_bI0, if_bI1, xI_rn, xI_ti, k_hasArc hv R.1.1 ha]
  · rw [if_neg c]
    simp (disch := omega) only [xI_le, xI_lt, xI_eq, xI_0, xI_ib, if_pos, if_neg, if_true, if_false, xI_cl, Int.toNat_natCast, iI_m, iI_a, iI_s, iI_1, xI_n, Option.bind_some, Int.natCast_add, Int.natCast_one, xI_zb, if_bI0, if_bI1, xI_rn, xI_ti, k_hasArc hv R.1.1 ha]
theorem mo_arc (ok : Ok st) (R : MoR h st) {a t : Int} (ha : -2147483648 ≤ a ∧ a < 2147483648) (ht : -2147483648 ≤ t ∧ t < 2147483648) : moC (f_X12_arc (iI a) (iI t)) h st (oArc st a t) ex12 := by
  have hv := ok.1.1
  have h8 := hv.1
  have Rc : mo_pl (am_u h (.inl 0) 0 0 (iI 0)) st.1 := mo_code R.1.1
  have hz : (6 : Int64).toInt = 6 := rfl
  unfold oArc
  by_cases c : 0 ≤ a ∧ a ≤ (st.1.1 0 : Int) - 1
  · obtain ⟨n, rfl⟩ : ∃ n : Nat, a = n := ⟨a.toNat, by omega⟩
    have hn : n < st.1.1 0 := by omega
    rw [if_pos c]
    rcases (show t = 0 ∨ t = 1 ∨ t = 2 ∨ t = 3 ∨ t = 4 ∨ t = 5 ∨ t = 6 ∨ (t < 0 ∨ 6 < t) by omega) with rfl | rfl | rfl | rfl | rfl | rfl | rfl | d
    · refine moC_c (c := iI 0) ?_ R agrv
      unfold f_X12_arc
      simp (disch := omega) only [xI_le, xI_lt, xI_eq, xI_0, xI_ib, if_pos, if_neg, if_true, if_false, xI_cl, Int.toNat_natCast, iI_m, iI_a, iI_s, iI_1, xI_n, Option.bind_some, Int.natCast_add, Int.natCast_one, xI_zb, if_bI0, if_bI1, xI_rn, xI_ti, m_isArc hv R.1.1 ha, m_isInz (n := 0) hz (by omega), m_gB1, m_ofArc0 hv Rc hn]
    · refine moC_c (c := iI 0) ?_ R agrv
      unfold f_X12_arc
      simp (disch := omega) only [xI_le, xI_lt, xI_eq, xI_0, xI_ib, if_pos, if_neg, if_true, if_false, xI_cl, Int.toNat_natCast, iI_m, iI_a, iI_s, iI_1, xI_n, Option.bind_some, Int.natCast_add, Int.natCast_one, xI_zb, if_bI0, if_bI1, xI_rn, xI_ti, m_isArc hv R.1.1 ha, m_isInz (n := 1) hz (by omega), m_gB1, (show f_X12_ofArc (iI n) (iI 1) (am_u h (.inl 0) 0 0 (iI 0)) = _ from m_ofArc hv Rc hn (c := 1) (by omega))]
    · refine moC_c (c := iI 0) ?_ R agrv
      unfold f_X12_arc
      simp (disch := omega) only [xI_le, xI_lt, xI_eq, xI_0, xI_ib, if_pos, if_neg, if_true, if_false, xI_cl, Int.toNat_natCast, iI_m, iI_a, iI_s, iI_1, xI_n, Option.bind_some, Int.natCast_add, Int.natCast_one, xI_zb, if_bI0, if_bI1, xI_rn, xI_ti, m_isArc hv R.1.1 ha, m_isInz (n := 2) hz (by omega), m_gB1, m_ofArc2 hv Rc hn]
    · refine moC_c (c := iI 0) ?_ R agrv
      unfold f_X12_arc
      simp (disch := omega) only [xI_le, xI_lt, xI_eq, xI_0, xI_ib, if_pos, if_neg, if_true, if_false, xI_cl, Int.toNat_natCast, iI_m, iI_a, iI_s, iI_1, xI_n, Option.bind_some, Int.natCast_add, Int.natCast_one, xI_zb, if_bI0, if_bI1, xI_rn, xI_ti, m_isArc hv R.1.1 ha, m_isInz (n := 3) hz (by omega), m_gB1, m_ofArc3 hv Rc hn]
    · refine moC_c (c := iI 0) ?_ R agrv
      unfold f_X12_arc
      simp (disch := omega) only [xI_le, xI_lt, xI_eq, xI_0, xI_ib, if_pos, if_neg, if_true, if_false, xI_cl, Int.toNat_natCast, iI_m, iI_a, iI_s, iI_1, xI_n, Option.bind_some, Int.natCast_add, Int.natCast_one, xI_zb, if_bI0, if_bI1, xI_rn, xI_ti, m_isArc hv R.1.1 ha, m_isInz (n := 4) hz (by omega), m_gB1, m_turnBefore hv Rc (n := n) (by omega)]
    · refine moC_c (c := iI 0) ?_ R agrv
      unfold f_X12_arc
      simp (disch := omega) only [xI_le, xI_lt, xI_eq, xI_0, xI_ib, if_pos, if_neg, if_true, if_false, xI_cl, Int.toNat_natCast, iI_m, iI_a, iI_s, iI_1, xI_n, Option.bind_some, Int.natCast_add, Int.natCast_one, xI_zb, if_bI0, if_bI1, xI_rn, xI_ti, m_isArc hv R.1.1 ha, m_isInz (n := 5) hz (by omega), m_gB1, m_partsBefore hv Rc (n := n) (by omega)]
    · refine moC_c (c := iI 0) ?_ R agrv
      unfold f_X12_arc
      simp (disch := omega) only [xI_le, xI_lt, xI_eq, xI_0, xI_ib, if_pos, if_neg, if_true, if_false, xI_cl, Int.toNat_natCast, iI_m, iI_a, iI_s, iI_1, xI_n, Option.bind_some, Int.natCast_add, Int.natCast_one, xI_zb, if_bI0, if_bI1, xI_rn, xI_ti, m_isArc hv R.1.1 ha, m_isInz (n := 6) hz (by omega), m_gB1, m_centresOn hv Rc (a := n) ha]
    · rw [if_neg (by omega), if_neg (by omega), if_neg (by omega), if_neg (by omega), if_neg (by omega), if_neg (by omega), if_neg (by omega)]
      refine moC_c (b := iI 0) (c := iI 2) ?_ R agr12b
      unfold f_X12_arc
      simp (disch := omega) only [xI_le, xI_lt, xI_eq, xI_0, xI_ib, if_pos, if_neg, if_true, if_false, xI_cl, Int.toNat_natCast, iI_m, iI_a, iI_s, iI_1, xI_n, Option.bind_some, Int.natCast_add, Int.natCast_one, xI_zb, if_bI0, if_bI1, xI_rn, xI_ti, m_isArc hv R.1.1 ha, m_isInz (n := t) hz ht, m_gB2]
  · rw [if_neg c]
    refine moC_c (b := iI 0) (c := iI 1) ?_ R agr12a
    unfold f_X12_arc
    by_cases d : 0 ≤ t ∧ t ≤ 6
    · simp (disch := omega) only [xI_le, xI_lt, xI_eq, xI_0, xI_ib, if_pos, if_neg, if_true, if_false, xI_cl, Int.toNat_natCast, iI_m, iI_a, iI_s, iI_1, xI_n, Option.bind_some, Int.natCast_add, Int.natCast_one, xI_zb, if_bI0, if_bI1, xI_rn, xI_ti, m_isArc hv R.1.1 ha, m_isInz (n := t) hz ht, m_gB01]
    · simp (disch := omega) only [xI_le, xI_lt, xI_eq, xI_0, xI_ib, if_pos, if_neg, if_true, if_false, xI_cl, Int.toNat_natCast, iI_m, iI_a, iI_s, iI_1, xI_n, Option.bind_some, Int.natCast_add, Int.natCast_one, xI_zb, if_bI0, if_bI1, xI_rn, xI_ti, m_isArc hv R.1.1 ha, m_isInz (n := t) hz ht, m_gB00]
end SEU
