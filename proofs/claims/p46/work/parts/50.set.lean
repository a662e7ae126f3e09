/-! settings, arcs, letters, scratches: told by both sides -/
section SET
variable {h : am_H} {v : pv_T}
theorem k_spoiledLetters (hv : pv_ok v) (P : cl_pl h 0 v) : ∃ h', f_X11_spoiledLetters h = some (iI (cN (fun j => decide (pv_iS v j)) (v.1 1)), h') ∧ Wr [(.inl 1, 4), (.inl 1, 3)] h h' := by
  have h8 := hv.1
  obtain ⟨hm, em, Rl⟩ := k_measure hv P.1 P.2.1
  have wm := wr_X3_measure em
  have Pm := P.eq (wm.P (k := 0) (by simp))
  refine ⟨hm, ?_, wm⟩
  have s := ch_to (fun i : Nat => f_X11_spoiledLetters_15 (iI (cN (fun j => decide (pv_iS v j)) i)) (iI i) hm) (Nat.zero_le (v.1 1)) (fun i _ hi => by
    show f_X11_spoiledLetters_15 _ _ _ = f_X11_spoiledLetters_15 _ _ _
    rw [e_X11_spoiledLetters_15]
    by_cases c : pv_iS v i
    · rw [cN_t (by simpa using c)]
      simp (disch := omega) only [xI_le, xI_lt, xI_eq, xI_0, xI_ib, if_pos, if_neg, if_true, if_false, xI_cl, Int.toNat_natCast, iI_m, iI_a, iI_s, iI_1, xI_n, Option.bind_some, Int.natCast_add, Int.natCast_one, xI_zb, if_bI0, if_bI1, xI_rn, xI_ti, Pm.2.1.1, k_isSpoiled hv Pm.2.1 Pm.2.2.2.2.1 Rl (l := i) (by omega), if_pos c]
    · rw [cN_f (by simpa using c)]
      simp (disch := omega) only [xI_le, xI_lt, xI_eq, xI_0, xI_ib, if_pos, if_neg, if_true, if_false, xI_cl, Int.toNat_natCast, iI_m, iI_a, iI_s, iI_1, xI_n, Option.bind_some, Int.natCast_add, Int.natCast_one, xI_zb, if_bI0, if_bI1, xI_rn, xI_ti, Pm.2.1.1, k_isSpoiled hv Pm.2.1 Pm.2.2.2.2.1 Rl (l := i) (by omega), if_neg c])
  unfold f_X11_spoiledLetters
  rw [em, Option.bind_some]
  refine Eq.trans s ?_
  show f_X11_spoiledLetters_15 _ _ _ = _
  rw [e_X11_spoiledLetters_15]
  simp (disch := omega) only [xI_le, xI_lt, xI_eq, xI_0, xI_ib, if_pos, if_neg, if_true, if_false, xI_cl, Int.toNat_natCast, iI_m, iI_a, iI_s, iI_1, xI_n, Option.bind_some, Int.natCast_add, Int.natCast_one, xI_zb, if_bI0, if_bI1, xI_rn, xI_ti, Pm.2.1.1]
end SET
section SEU
variable {h : am_H} {st : St}
def oSet (st : St) (t : Int) : Int32 ⊕ Nat := if t = 0 then .inl (iI (st.1.1 0)) else if t = 1 then .inl (iI (st.1.1 1)) else if t = 2 then .inl (iI (st.1.1 2)) else if t = 3 then .inl (iI (pv_wT st.1)) else if t = 4 then .inl (iI (pv_wP st.1)) else if t = 5 then .inl (iI (st.1.2 0 0)) else if t = 6 then .inl (iI (st.1.2 0 1)) else if t = 7 then .inl (iI (st.1.1 3)) else if t = 8 then .inl (iI (cN (fun j => decide (st.1.2 6 j = 1)) (st.1.1 1))) else if t = 9 then .inl (iI (cN (fun j => decide (pv_iS st.1 j)) (st.1.1 1))) else if t = 10 then .inl (iI (st.1.2 0 2)) else if t = 11 then .inl (iI (st.1.2 0 3)) else if t = 12 then .inl (iI (st.1.2 0 4)) else if t = 13 then .inl (iI st.2.2.1.1) else .inr 1
theorem cl_setting (ok : Ok st) (R : ClR h st) {t : Int} (ht : -2147483648 ≤ t ∧ t < 2147483648) : clC (f_X11_setting (iI t)) h st (oSet st t) := by
  have hv := ok.1.1
  rcases (show t = 0 ∨ t = 1 ∨ t = 2 ∨ t = 3 ∨ t = 4 ∨ t = 5 ∨ t = 6 ∨ t = 7 ∨ t = 8 ∨ t = 9 ∨ t = 10 ∨ t = 11 ∨ t = 12 ∨ t = 13 ∨ (t < 0 ∨ 13 < t) by omega) with rfl | rfl | rfl | rfl | rfl | rfl | rfl | rfl | rfl | rfl | rfl | rfl | rfl | rfl | c
  · refine clC_w (h1 := h) ?_ (Wr.rf (L := [])) rfl rfl R
    unfold f_X11_setting
    simp (disch := omega) only [xI_le, xI_lt, xI_eq, xI_0, xI_ib, if_pos, if_neg, if_true, if_false, xI_cl, Int.toNat_natCast, iI_m, iI_a, iI_s, iI_1, xI_n, Option.bind_some, Int.natCast_add, Int.natCast_one, xI_zb, if_bI0, if_bI1, xI_rn, xI_ti, R.1.1.1]
    rfl
  · refine clC_w (h1 := h) ?_ (Wr.rf (L := [])) rfl rfl R
    unfold f_X11_setting
    simp (disch := omega) only [xI_le, xI_lt, xI_eq, xI_0, xI_ib, if_pos, if_neg, if_true, if_false, xI_cl, Int.toNat_natCast, iI_m, iI_a, iI_s, iI_1, xI_n, Option.bind_some, Int.natCast_add, Int.natCast_one, xI_zb, if_bI0, if_bI1, xI_rn, xI_ti, R.1.2.1.1]
    rfl
  · refine clC_w (h1 := h) ?_ (Wr.rf (L := [])) rfl rfl R
    unfold f_X11_setting
    simp (disch := omega) only [xI_le, xI_lt, xI_eq, xI_0, xI_ib, if_pos, if_neg, if_true, if_false, xI_cl, Int.toNat_natCast, iI_m, iI_a, iI_s, iI_1, xI_n, Option.bind_some, Int.natCast_add, Int.natCast_one, xI_zb, if_bI0, if_bI1, xI_rn, xI_ti, R.1.2.2.1.1]
    rfl
  · refine clC_w (h1 := h) ?_ (Wr.rf (L := [])) rfl rfl R
    unfold f_X11_setting
    simp (disch := omega) only [xI_le, xI_lt, xI_eq, xI_0, xI_ib, if_pos, if_neg, if_true, if_false, xI_cl, Int.toNat_natCast, iI_m, iI_a, iI_s, iI_1, xI_n, Option.bind_some, Int.natCast_add, Int.natCast_one, xI_zb, if_bI0, if_bI1, xI_rn, xI_ti, k_wholeTurn hv R.1.1]
    rfl
  · refine clC_w (h1 := h) ?_ (Wr.rf (L := [])) rfl rfl R
    unfold f_X11_setting
    simp (disch := omega) only [xI_le, xI_lt, xI_eq, xI_0, xI_ib, if_pos, if_neg, if_true, if_false, xI_cl, Int.toNat_natCast, iI_m, iI_a, iI_s, iI_1, xI_n, Option.bind_some, Int.natCast_add, Int.natCast_one, xI_zb, if_bI0, if_bI1, xI_rn, xI_ti, k_wholeParts hv R.1.1]
    rfl
  · refine clC_w (h1 := h) ?_ (Wr.rf (L := [])) rfl rfl R
    unfold f_X11_setting
    simp (disch := omega) only [xI_le, xI_lt, xI_eq, xI_0, xI_ib, if_pos, if_neg, if_true, if_false, xI_cl, Int.toNat_natCast, iI_m, iI_a, iI_s, iI_1, xI_n, Option.bind_some, Int.natCast_add, Int.natCast_one, xI_zb, if_bI0, if_bI1, xI_rn, xI_ti, R.1.2.2.2.1.1]
    rfl
  · refine clC_w (h1 := h) ?_ (Wr.rf (L := [])) rfl rfl R
    unfold f_X11_setting
    simp (disch := omega) only [xI_le, xI_lt, xI_eq, xI_0, xI_ib, if_pos, if_neg, if_true, if_false, xI_cl, Int.toNat_natCast, iI_m, iI_a, iI_s, iI_1, xI_n, Option.bind_some, Int.natCast_add, Int.natCast_one, xI_zb, if_bI0, if_bI1, xI_rn, xI_ti, R.1.2.2.2.2.2]
    rfl
  · refine clC_w (h1 := h) ?_ (Wr.rf (L := [])) rfl rfl R
    unfold f_X11_setting
    simp (disch := omega) only [xI_le, xI_lt, xI_eq, xI_0, xI_ib, if_pos, if_neg, if_true, if_false, xI_cl, Int.toNat_natCast, iI_m, iI_a, iI_s, iI_1, xI_n, Option.bind_some, Int.natCast_add, Int.natCast_one, xI_zb, if_bI0, if_bI1, xI_rn, xI_ti, R.1.2.2.2.2.1.1]
    rfl
  · refine clC_w (h1 := h) ?_ (Wr.rf (L := [])) rfl rfl R
    unfold f_X11_setting
    simp (disch := omega) only [xI_le, xI_lt, xI_eq, xI_0, xI_ib, if_pos, if_neg, if_true, if_false, xI_cl, Int.toNat_natCast, iI_m, iI_a, iI_s, iI_1, xI_n, Option.bind_some, Int.natCast_add, Int.natCast_one, xI_zb, if_bI0, if_bI1, xI_rn, xI_ti, k_engravedLetters hv R.1.2.1]
    rfl
  · obtain ⟨h1, e1, w1⟩ := k_spoiledLetters hv R.1
    refine clC_w (h1 := h1) ?_ w1 rfl rfl R
    unfold f_X11_setting
    simp (disch := omega) only [xI_le, xI_lt, xI_eq, xI_0, xI_ib, if_pos, if_neg, if_true, if_false, xI_cl, Int.toNat_natCast, iI_m, iI_a, iI_s, iI_1, xI_n, Option.bind_some, Int.natCast_add, Int.natCast_one, xI_zb, if_bI0, if_bI1, xI_rn, xI_ti, e1]
    rfl
  · refine clC_w (h1 := h) ?_ (Wr.rf (L := [])) rfl rfl R
    unfold f_X11_setting
    simp (disch := omega) only [xI_le, xI_lt, xI_eq, xI_0, xI_ib, if_pos, if_neg, if_true, if_false, xI_cl, Int.toNat_natCast, iI_m, iI_a, iI_s, iI_1, xI_n, Option.bind_some, Int.natCast_add, Int.natCast_one, xI_zb, if_bI0, if_bI1, xI_rn, xI_ti, R.1.2.2.2.1.2.1]
    rfl
  · refine clC_w (h1 := h) ?_ (Wr.rf (L := [])) rfl rfl R
    unfold f_X11_setting
    simp (disch := omega) only [xI_le, xI_lt, xI_eq, xI_0, xI_ib, if_pos, if_neg, if_true, if_false, xI_cl, Int.toNat_natCast, iI_m, iI_a, iI_s, iI_1, xI_n, Option.bind_some, Int.natCast_add, Int.natCast_one, xI_zb, if_bI0, if_bI1, xI_rn, xI_ti, R.1.2.2.2.1.2.2.1]
    rfl
  · refine clC_w (h1 := h) ?_ (Wr.rf (L := [])) rfl rfl R
    unfold f_X11_setting
    simp (disch := omega) only [xI_le, xI_lt, xI_eq, xI_0, xI_ib, if_pos, if_neg, if_true, if_false, xI_cl, Int.toNat_natCast, iI_m, iI_a, iI_s, iI_1, xI_n, Option.bind_some, Int.natCast_add, Int.natCast_one, xI_zb, if_bI0, if_bI1, xI_rn, xI_ti, R.1.2.2.2.1.2.2.2]
    rfl
  · refine clC_w (h1 := h) ?_ (Wr.rf (L := [])) rfl rfl R
    unfold f_X11_setting
    simp (disch := omega) only [xI_le, xI_lt, xI_eq, xI_0, xI_ib, if_pos, if_neg, if_true, if_false, xI_cl, Int.toNat_natCast, iI_m, iI_a, iI_s, iI_1, xI_n, Option.bind_some, Int.natCast_add, Int.natCast_one, xI_zb, if_bI0, if_bI1, xI_rn, xI_ti, R.2.2.1.1]
    rfl
  · refine clC_w (h1 := h) ?_ (Wr.rf (L := [])) rfl rfl R
    unfold f_X11_setting oSet
    simp (disch := omega) only [xI_le, xI_lt, xI_eq, xI_0, xI_ib, if_pos, if_neg, if_true, if_false, xI_cl, Int.toNat_natCast, iI_m, iI_a, iI_s, iI_1, xI_n, Option.bind_some, Int.natCast_add, Int.natCast_one, xI_zb, if_bI0, if_bI1, xI_rn, xI_ti]
def oArc (st : St) (a t : Int) : Int32 ⊕ Nat := if 0 ≤ a ∧ a ≤ (st.1.1 0 : Int) - 1 then (if t = 0 then .inl (iI (st.1.2 1 a.toNat)) else if t = 1 then .inl (iI (st.1.2 2 a.toNat)) else if t = 2 then .inl (iI (st.1.2 3 a.toNat)) else if t = 3 then .inl (iI (st.1.2 4 a.toNat)) else if t = 4 then .inl (iI (pv_tA st.1 a.toNat)) else if t = 5 then .inl (iI (pv_pA st.1 a.toNat)) else if t = 6 then .inl (iI (cN (fun j => decide (pv_ar st.1 (pv_ct st.1 j) = a)) (st.1.1 1))) else .inr 1) else .inr 2
end SEU
