/-! rooms, flourishes, means: told by both sides -/
section ROO
variable {h : am_H} {st : St}
def oRoom (st : St) (r : Int) : Int32 ⊕ Nat := if 0 ≤ r ∧ r ≤ (st.1.1 1 : Int) then .inl (iI (pv_rm st.1 r.toNat)) else .inr 2
theorem cl_room (ok : Ok st) (R : ClR h st) {r : Int} (hr : -2147483648 ≤ r ∧ r < 2147483648) : clC (f_X11_room (iI r)) h st (oRoom st r) := by
  have hv := ok.1.1
  have h8 := hv.1
  unfold oRoom
  by_cases c : 0 ≤ r ∧ r ≤ (st.1.1 1 : Int)
  · obtain ⟨n, rfl⟩ : ∃ n : Nat, r = n := ⟨r.toNat, by omega⟩
    rw [if_pos c]
    obtain ⟨hm, em, Rl⟩ := k_measure hv R.1.1 R.1.2.1
    refine clC_w (h1 := hm) ?_ (wr_X3_measure em) rfl rfl R
    unfold f_X11_room
    simp (disch := omega) only [xI_le, xI_lt, xI_eq, xI_0, xI_ib, if_pos, if_neg, if_true, if_false, xI_cl, Int.toNat_natCast, iI_m, iI_a, iI_s, iI_1, xI_n, Option.bind_some, Int.natCast_add, Int.natCast_one, xI_zb, if_bI0, if_bI1, xI_rn, xI_ti, k_hasRoom hv R.1.2.1 hr, em, Rl.2 n (by omega)]
  · rw [if_neg c]
    refine clC_w (h1 := h) ?_ (Wr.rf (L := [])) rfl rfl R
    unfold f_X11_room
    simp (disch := omega) only [xI_le, xI_lt, xI_eq, xI_0, xI_ib, if_pos, if_neg, if_true, if_false, xI_cl, Int.toNat_natCast, iI_m, iI_a, iI_s, iI_1, xI_n, Option.bind_some, Int.natCast_add, Int.natCast_one, xI_zb, if_bI0, if_bI1, xI_rn, xI_ti, k_hasRoom hv R.1.2.1 hr]
theorem mo_room (ok : Ok st) (R : MoR h st) {r : Int} (hr : -2147483648 ≤ r ∧ r < 2147483648) : moC (f_X12_room (iI r)) h st (oRoom st r) ex2 := by
  have hv := ok.1.1
  have Rc : mo_pl (am_u h (.inl 0) 0 0 (iI 0)) st.1 := mo_code R.1.1
  unfold oRoom
  by_cases c : 0 ≤ r ∧ r ≤ (st.1.1 1 : Int)
  · obtain ⟨n, rfl⟩ : ∃ n : Nat, r = n := ⟨r.toNat, by omega⟩
    rw [if_pos c]
    refine moC_c (c := iI 0) ?_ R agrv
    unfold f_X12_room
    simp (disch := omega) only [xI_le, xI_lt, xI_eq, xI_0, xI_ib, if_pos, if_neg, if_true, if_false, xI_cl, Int.toNat_natCast, iI_m, iI_a, iI_s, iI_1, xI_n, Option.bind_some, Int.natCast_add, Int.natCast_one, xI_zb, if_bI0, if_bI1, xI_rn, xI_ti, m_isRoom hv R.1.1 hr, m_goes1, m_roomOf hv Rc (i := n) (by omega)]
  · rw [if_neg c]
    refine moC_c (b := iI 0) (c := iI 1) ?_ R agr2
    unfold f_X12_room
    simp (disch := omega) only [xI_le, xI_lt, xI_eq, xI_0, xI_ib, if_pos, if_neg, if_true, if_false, xI_cl, Int.toNat_natCast, iI_m, iI_a, iI_s, iI_1, xI_n, Option.bind_some, Int.natCast_add, Int.natCast_one, xI_zb, if_bI0, if_bI1, xI_rn, xI_ti, m_isRoom hv R.1.1 hr, m_goes0]
theorem cl_crowded (ok : Ok st) (R : ClR h st) : ∃ h1, f_X11_crowded h = some (pv_crS st.1 (st.1.1 1 + 1), h1) ∧ ClR h1 st ∧ MFr h h1 := by
  have hv := ok.1.1
  obtain ⟨hm, em, Rl⟩ := k_measure hv R.1.1 R.1.2.1
  have wm := wr_X3_measure em
  have Pm := R.1.eq (wm.P (k := 0) (by simp))
  refine ⟨hm, ?_, ClR.wr wm rfl R, wm.MF rfl⟩
  unfold f_X11_crowded
  rw [em, Option.bind_some, Pm.2.2.2.2.2, k_crowdedRooms hv Rl, Option.bind_some]
theorem mo_crowded (ok : Ok st) (R : MoR h st) : ∃ h3, f_X12_crowded h = some (pv_crS st.1 (st.1.1 1 + 1), h3) ∧ MoR h3 st ∧ CFr h h3 := by
  have hv := ok.1.1
  have h8 := hv.1
  have Rc : mo_pl (am_u h (.inl 0) 0 0 (iI 0)) st.1 := mo_code R.1.1
  refine ⟨am_u h (.inl 0) 0 0 (iI 0), ?_, R.code, CFr.code⟩
  have s := ch_to (fun i : Nat => f_X12_crowded_9 (pv_crS st.1 i) (iI i) (am_u h (.inl 0) 0 0 (iI 0))) (Nat.zero_le (st.1.1 1 + 1)) (fun i _ hi => by
    show f_X12_crowded_9 _ _ _ = f_X12_crowded_9 _ _ _
    rw [e_X12_crowded_9]
    by_cases c : pv_rm st.1 i < 100 * st.1.2 0 1
    · rw [show pv_crS st.1 (i + 1) = pv_crS st.1 i ||| (iI 1 <<< (iI i &&& 31)) from if_pos c]
      simp (disch := omega) only [xI_le, xI_lt, xI_eq, xI_0, xI_ib, if_pos, if_neg, if_true, if_false, xI_cl, Int.toNat_natCast, iI_m, iI_a, iI_s, iI_1, xI_n, Option.bind_some, Int.natCast_add, Int.natCast_one, xI_zb, if_bI0, if_bI1, xI_rn, xI_ti, Int.toNat_one, Rc.1.2.1, m_isCrowded hv Rc (i := i) (by omega)]
    · rw [show pv_crS st.1 (i + 1) = pv_crS st.1 i from if_neg c]
      simp (disch := omega) only [xI_le, xI_lt, xI_eq, xI_0, xI_ib, if_pos, if_neg, if_true, if_false, xI_cl, Int.toNat_natCast, iI_m, iI_a, iI_s, iI_1, xI_n, Option.bind_some, Int.natCast_add, Int.natCast_one, xI_zb, if_bI0, if_bI1, xI_rn, xI_ti, Int.toNat_one, Rc.1.2.1, m_isCrowded hv Rc (i := i) (by omega)]
      rw [show iI 0 = (0 : Int32) from rfl, Int32.or_zero])
  unfold f_X12_crowded am_lt
  refine Eq.trans s ?_
  show f_X12_crowded_9 _ _ _ = _
  rw [e_X12_crowded_9]
  simp (disch := omega) only [xI_le, xI_lt, xI_eq, xI_0, xI_ib, if_pos, if_neg, if_true, if_false, xI_cl, Int.toNat_natCast, iI_m, iI_a, iI_s, iI_1, xI_n, Option.bind_some, Int.natCast_add, Int.natCast_one, xI_zb, if_bI0, if_bI1, xI_rn, xI_ti, Int.toNat_one, Rc.1.2.1]
theorem cl_tightest (ok : Ok st) (R : ClR h st) : ∃ h1, f_X11_tightest h = some (iI (pv_ti st.1 (st.1.1 1 + 1)), h1) ∧ ClR h1 st ∧ MFr h h1 := by
  have hv := ok.1.1
  obtain ⟨hm, em, Rl⟩ := k_measure hv R.1.1 R.1.2.1
  have wm := wr_X3_measure em
  refine ⟨hm, ?_, ClR.wr wm rfl R, wm.MF rfl⟩
  unfold f_X11_tightest
  rw [em, Option.bind_some, k_tightestRoom hv Rl, Option.bind_some]
theorem mo_tightest (ok : Ok st) (R : MoR h st) : ∃ h3, f_X12_tightest h = some (iI (pv_ti st.1 (st.1.1 1 + 1)), h3) ∧ MoR h3 st ∧ CFr h h3 := by
  refine ⟨am_u h (.inl 0) 0 0 (iI 0), ?_, R.code, CFr.code⟩
  unfold f_X12_tightest
  simp only [am_lt, m_tightestNow ok.1.1 (mo_code R.1.1), Option.bind_some]
theorem cl_worth (ok : Ok st) (R : ClR h st) : ∃ h1, f_X11_worth h = some (iI (pv_wo st.1 (pv_fs st.1 (st.1.1 1 + 1)) (st.1.1 1 + 1)), h1) ∧ ClR h1 st ∧ MFr h h1 := by
  have hv := ok.1.1
  obtain ⟨hm, em, Rl, Rf⟩ := k_fill hv R.1
  have wm := wr_X3_fill em
  refine ⟨hm, ?_, ClR.wr wm rfl R, wm.MF rfl⟩
  unfold f_X11_worth
  rw [em, Option.bind_some, k_worthOfFillings hv (R.1.eq (wm.P (k := 0) (by simp))) Rl Rf (pv_fs_ok hv _ (Nat.le_refl _)).2.1, Option.bind_some]
theorem mo_worth (ok : Ok st) (R : MoR h st) : ∃ h3, f_X12_worth h = some (iI (pv_wo st.1 (pv_fs st.1 (st.1.1 1 + 1)) (st.1.1 1 + 1)), h3) ∧ MoR h3 st ∧ CFr h h3 := by
  have hv := ok.1.1
  have h8 := hv.1
  have Rc : mo_pl (am_u h (.inl 0) 0 0 (iI 0)) st.1 := mo_code R.1.1
  obtain ⟨h3, e3, p1, p2⟩ := m_lays hv Rc
  have w := wr_X12_laysFlourishes e3
  have R3 : mo_pl h3 st.1 := Rc.eq (w.1 _ _ (by simp))
  have hf := (pv_fs_ok hv _ (Nat.le_refl (st.1.1 1 + 1))).2.1
  generalize pv_fs st.1 (st.1.1 1 + 1) = f at p1 p2 hf ⊢
  refine ⟨h3, ?_, MoR.wr w rfl R.code, CFr.code.tr (w.CF rfl)⟩
  have s := ch_to (fun i : Nat => f_X12_worth_13 (iI (pv_wo st.1 f i)) (iI i) h3) (Nat.zero_le (st.1.1 1 + 1)) (fun i _ hi => by
    show f_X12_worth_13 _ _ _ = f_X12_worth_13 _ _ _
    have hb := hf i
    rw [e_X12_worth_13]
    by_cases c : f.2.1 i = -1
    · rw [show pv_wo st.1 f (i + 1) = pv_wo st.1 f i from if_pos c]
      simp (disch := omega) only [xI_le, xI_lt, xI_eq, xI_0, xI_ib, if_pos, if_neg, if_true, if_false, xI_cl, Int.toNat_natCast, iI_m, iI_a, iI_s, iI_1, xI_n, Option.bind_some, Int.natCast_add, Int.natCast_one, xI_zb, if_bI0, if_bI1, xI_rn, xI_ti, Int.toNat_one, R3.1.2.1, p1 i (by omega), Int.add_zero]
    · obtain ⟨q, hq⟩ : ∃ q : Nat, f.2.1 i = q := ⟨(f.2.1 i).toNat, by omega⟩
      rw [show pv_wo st.1 f (i + 1) = pv_wo st.1 f i + st.1.2 10 (f.2.1 i).toNat from if_neg c]
      rw [hq] at c ⊢
      simp (disch := omega) only [xI_le, xI_lt, xI_eq, xI_0, xI_ib, if_pos, if_neg, if_true, if_false, xI_cl, Int.toNat_natCast, iI_m, iI_a, iI_s, iI_1, xI_n, Option.bind_some, Int.natCast_add, Int.natCast_one, xI_zb, if_bI0, if_bI1, xI_rn, xI_ti, Int.toNat_one, R3.1.2.1, p1 i (by omega), hq, m_ofK1 hv R3 (i := q) (by omega)])
  unfold f_X12_worth
  simp only [am_lt, e3, Option.bind_some]
  refine Eq.trans s ?_
  show f_X12_worth_13 _ _ _ = _
  rw [e_X12_worth_13]
  simp (disch := omega) only [xI_le, xI_lt, xI_eq, xI_0, xI_ib, if_pos, if_neg, if_true, if_false, xI_cl, Int.toNat_natCast, iI_m, iI_a, iI_s, iI_1, xI_n, Option.bind_some, Int.natCast_add, Int.natCast_one, xI_zb, if_bI0, if_bI1, xI_rn, xI_ti, Int.toNat_one, R3.1.2.1]
def oFi (st : St) (r : Int) : Int32 ⊕ Nat := if 0 ≤ r ∧ r ≤ (st.1.1 1 : Int) then .inl (iI ((pv_fs st.1 (st.1.1 1 + 1)).2.1 r.toNat)) else .inr 2
theorem cl_flourishIn (ok : Ok st) (R : ClR h st) {r : Int} (hr : -2147483648 ≤ r ∧ r < 2147483648) : clC (f_X11_flourishIn (iI r)) h st (oFi st r) := by
  have hv := ok.1.1
  have h8 := hv.1
  unfold oFi
  by_cases c : 0 ≤ r ∧ r ≤ (st.1.1 1 : Int)
  · obtain ⟨n, rfl⟩ : ∃ n : Nat, r = n := ⟨r.toNat, by omega⟩
    rw [if_pos c]
    obtain ⟨hm, em, Rl, Rf⟩ := k_fill hv R.1
    refine clC_w (h1 := hm) ?_ (wr_X3_fill em) rfl rfl R
    unfold f_X11_flourishIn
    simp (disch := omega) only [xI_le, xI_lt, xI_eq, xI_0, xI_ib, if_pos, if_neg, if_true, if_false, xI_cl, Int.toNat_natCast, iI_m, iI_a, iI_s, iI_1, xI_n, Option.bind_some, Int.natCast_add, Int.natCast_one, xI_zb, if_bI0, if_bI1, xI_rn, xI_ti, k_hasRoom hv R.1.2.1 hr, em, (Rf.1 n (by omega)).2]
  · rw [if_neg c]
    refine clC_w (h1 := h) ?_ (Wr.rf (L := [])) rfl rfl R
    unfold f_X11_flourishIn
    simp (disch := omega) only [xI_le, xI_lt, xI_eq, xI_0, xI_ib, if_pos, if_neg, if_true, if_false, xI_cl, Int.toNat_natCast, iI_m, iI_a, iI_s, iI_1, xI_n, Option.bind_some, Int.natCast_add, Int.natCast_one, xI_zb, if_bI0, if_bI1, xI_rn, xI_ti, k_hasRoom hv R.1.2.1 hr]
theorem mo_flourishIn (ok : Ok st) (R : MoR h st) {r : Int} (hr : -2147483648 ≤ r ∧ r < 2147483648) : moC (f_X12_flourishIn (iI r)) h st (oFi st r) ex2 := by
  have hv := ok.1.1
  have h8 := hv.1
  have Rc : mo_pl (am_u h (.inl 0) 0 0 (iI 0)) st.1 := mo_code R.1.1
  unfold oFi
  by_cases c : 0 ≤ r ∧ r ≤ (st.1.1 1 : Int)
  · obtain ⟨n, rfl⟩ : ∃ n : Nat, r = n := ⟨r.toNat, by omega⟩
    rw [if_pos c]
    obtain ⟨h3, e3, p1, p2⟩ := m_lays hv Rc
    refine moC_w (h3 := h3) (c := iI 0) ?_ (wr_X12_laysFlourishes e3) rfl rfl R agrv
    unfold f_X12_flourishIn
    simp (disch := omega) only [xI_le, xI_lt, xI_eq, xI_0, xI_ib, if_pos, if_neg, if_true, if_false, xI_cl, Int.toNat_natCast, iI_m, iI_a, iI_s, iI_1, xI_n, Option.bind_some, Int.natCast_add, Int.natCast_one, xI_zb, if_bI0, if_bI1, xI_rn, xI_ti, m_isRoom hv R.1.1 hr, m_goes1, e3, p1 n (by omega)]
  · rw [if_neg c]
    refine moC_c (b := iI 0) (c := iI 1) ?_ R agr2
    unfold f_X12_flourishIn
    simp (disch := omega) only [xI_le, xI_lt, xI_eq, xI_0, xI_ib, if_pos, if_neg, if_true, if_false, xI_cl, Int.toNat_natCast, iI_m, iI_a, iI_s, iI_1, xI_n, Option.bind_some, Int.natCast_add, Int.natCast_one, xI_zb, if_bI0, if_bI1, xI_rn, xI_ti, m_isRoom hv R.1.1 hr, m_goes0]
def oSl (st : St) (q : Int) : Int32 ⊕ Nat := if 0 ≤ q ∧ q ≤ (st.1.1 2 : Int) - 1 then .inl (iI ((pv_fs st.1 (st.1.1 1 + 1)).2.2 q.toNat)) else .inr 2
theorem cl_stockLeft (ok : Ok st) (R : ClR h st) {r : Int} (hr : -2147483648 ≤ r ∧ r < 2147483648) : clC (f_X11_stockLeft (iI r)) h st (oSl st r) := by
  have hv := ok.1.1
  have h8 := hv.1
  unfold oSl
  by_cases c : 0 ≤ r ∧ r ≤ (st.1.1 2 : Int) - 1
  · obtain ⟨n, rfl⟩ : ∃ n : Nat, r = n := ⟨r.toNat, by omega⟩
    rw [if_pos c]
    obtain ⟨hm, em, Rl, Rf⟩ := k_fill hv R.1
    refine clC_w (h1 := hm) ?_ (wr_X3_fill em) rfl rfl R
    unfold f_X11_stockLeft
    simp (disch := omega) only [xI_le, xI_lt, xI_eq, xI_0, xI_ib, if_pos, if_neg, if_true, if_false, xI_cl, Int.toNat_natCast, iI_m, iI_a, iI_s, iI_1, xI_n, Option.bind_some, Int.natCast_add, Int.natCast_one, xI_zb, if_bI0, if_bI1, xI_rn, xI_ti, k_hasKind hv R.1.2.2.1 hr, em, Rf.2 n (by omega)]
  · rw [if_neg c]
    refine clC_w (h1 := h) ?_ (Wr.rf (L := [])) rfl rfl R
    unfold f_X11_stockLeft
    simp (disch := omega) only [xI_le, xI_lt, xI_eq, xI_0, xI_ib, if_pos, if_neg, if_true, if_false, xI_cl, Int.toNat_natCast, iI_m, iI_a, iI_s, iI_1, xI_n, Option.bind_some, Int.natCast_add, Int.natCast_one, xI_zb, if_bI0, if_bI1, xI_rn, xI_ti, k_hasKind hv R.1.2.2.1 hr]
theorem mo_stockLeft (ok : Ok st) (R : MoR h st) {r : Int} (hr : -2147483648 ≤ r ∧ r < 2147483648) : moC (f_X12_stockLeft (iI r)) h st (oSl st r) ex2 := by
  have hv := ok.1.1
  have h8 := hv.1
  have Rc : mo_pl (am_u h (.inl 0) 0 0 (iI 0)) st.1 := mo_code R.1.1
  unfold oSl
  by_cases c : 0 ≤ r ∧ r ≤ (st.1.1 2 : Int) - 1
  · obtain ⟨n, rfl⟩ : ∃ n : Nat, r = n := ⟨r.toNat, by omega⟩
    rw [if_pos c]
    obtain ⟨h3, e3, p1, p2⟩ := m_lays hv Rc
    refine moC_w (h3 := h3) (c := iI 0) ?_ (wr_X12_laysFlourishes e3) rfl rfl R agrv
    unfold f_X12_stockLeft
    simp (disch := omega) only [xI_le, xI_lt, xI_eq, xI_0, xI_ib, if_pos, if_neg, if_true, if_false, xI_cl, Int.toNat_natCast, iI_m, iI_a, iI_s, iI_1, xI_n, Option.bind_some, Int.natCast_add, Int.natCast_one, xI_zb, if_bI0, if_bI1, xI_rn, xI_ti, m_isKind hv R.1.1 hr, m_goes1, e3, p2 n (by omega)]
  · rw [if_neg c]
    refine moC_c (b := iI 0) (c := iI 1) ?_ R agr2
    unfold f_X12_stockLeft
    simp (disch := omega) only [xI_le, xI_lt, xI_eq, xI_0, xI_ib, if_pos, if_neg, if_true, if_false, xI_cl, Int.toNat_natCast, iI_m, iI_a, iI_s, iI_1, xI_n, Option.bind_some, Int.natCast_add, Int.natCast_one, xI_zb, if_bI0, if_bI1, xI_rn, xI_ti, m_isKind hv R.1.1 hr, m_goes0]
def pv_dg (v : pv_T) (j : Nat) : Int := if 2 * (pv_hd v (pv_ct v j) - v.2 0 0) < 0 then 0 else if 100 < 2 * (pv_hd v (pv_ct v j) - v.2 0 0) then 100 else 2 * (pv_hd v (pv_ct v j) - v.2 0 0)
theorem pv_hd_b {v : pv_T} (hv : pv_ok v) (t : Int) : 0 ≤ pv_hd v t ∧ pv_hd v t ≤ 99 := by
  have h1 := pv_ar_b v t
  unfold pv_hd
  split
  · have := hv.2.1 (pv_ar v t).toNat (by omega)
    omega
  · omega
def oDg (st : St) (a : Int) : Int32 ⊕ Nat := if 0 ≤ a ∧ a ≤ (st.1.1 1 : Int) - 1 then .inl (iI (pv_dg st.1 a.toNat)) else .inr 2
theorem cl_danger (ok : Ok st) (R : ClR h st) {r : Int} (hr : -2147483648 ≤ r ∧ r < 2147483648) : clC (fun h => (f_X11_danger (iI r) h).map (fun a => (a, h))) h st (oDg st r) := by
  have hv := ok.1.1
  have h8 := hv.1
  have hg := hv.2.2.2.2.2.2
  refine clC_r ?_ R
  unfold oDg f_X11_danger
  by_cases c : 0 ≤ r ∧ r ≤ (st.1.1 1 : Int) - 1
  · obtain ⟨n, rfl⟩ : ∃ n : Nat, r = n := ⟨r.toNat, by omega⟩
    have hb := pv_hd_b hv (pv_ct st.1 n)
    rw [if_pos c]
    have hm : -2147483648 ≤ (if 100 ≤ 2 * (pv_hd st.1 (pv_ct st.1 n) - st.1.2 0 0) then 100 else 2 * (pv_hd st.1 (pv_ct st.1 n) - st.1.2 0 0)) ∧ (if 100 ≤ 2 * (pv_hd st.1 (pv_ct st.1 n) - st.1.2 0 0) then 100 else 2 * (pv_hd st.1 (pv_ct st.1 n) - st.1.2 0 0)) < 2147483648 := by split <;> omega
    rw [k_hasLetter hv R.1.2.1 hr, Option.bind_some, show bI (0 ≤ (n : Int) ∧ (n : Int) ≤ (st.1.1 1 : Int) - 1) = 1 from if_pos c, if_neg (by decide), k_hardnessUnder hv R.1.1 R.1.2.1 (j := n) (by omega), Option.bind_some, R.1.2.2.2.1.1, iI_s, iI_m, k_min (by omega) (by omega), Option.bind_some, k_max (by omega) hm, Option.bind_some]
    congr 3
    rw [Int.toNat_natCast]
    unfold pv_dg
    split <;> (repeat' split) <;> omega
  · rw [if_neg c]
    simp (disch := omega) only [xI_le, xI_lt, xI_eq, xI_0, xI_ib, if_pos, if_neg, if_true, if_false, xI_cl, Int.toNat_natCast, iI_m, iI_a, iI_s, iI_1, xI_n, Option.bind_some, Int.natCast_add, Int.natCast_one, xI_zb, if_bI0, if_bI1, xI_rn, xI_ti, k_hasLetter hv R.1.2.1 hr]
theorem mo_danger (ok : Ok st) (R : MoR h st) {r : Int} (hr : -2147483648 ≤ r ∧ r < 2147483648) : moC (f_X12_danger (iI r)) h st (oDg st r) ex2 := by
  have hv := ok.1.1
  have h8 := hv.1
  have hg := hv.2.2.2.2.2.2
  have Rc : mo_pl (am_u h (.inl 0) 0 0 (iI 0)) st.1 := mo_code R.1.1
  unfold oDg
  by_cases c : 0 ≤ r ∧ r ≤ (st.1.1 1 : Int) - 1
  · obtain ⟨n, rfl⟩ : ∃ n : Nat, r = n := ⟨r.toNat, by omega⟩
    have hb := pv_hd_b hv (pv_ct st.1 n)
    rw [if_pos c]
    refine moC_c (c := iI 0) ?_ R agrv
    have hm : -2147483648 ≤ (if 0 < 2 * (pv_hd st.1 (pv_ct st.1 n) - st.1.2 0 0) then 2 * (pv_hd st.1 (pv_ct st.1 n) - st.1.2 0 0) else 0) ∧ (if 0 < 2 * (pv_hd st.1 (pv_ct st.1 n) - st.1.2 0 0) then 2 * (pv_hd st.1 (pv_ct st.1 n) - st.1.2 0 0) else 0) < 2147483648 := by split <;> omega
    have hd : f_X12_dangerOf (iI n) (am_u h (.inl 0) 0 0 (iI 0)) = some (iI (pv_dg st.1 n)) := by
      unfold f_X12_dangerOf
      rw [m_hardness hv Rc (j := n) (by omega), Option.bind_some, if_pos (by decide), xI_cl (by omega) (by omega), show (3 : Int).toNat = 3 from rfl, Rc.1.2.2.2.1, iI_s, iI_m, m_greater (by omega) (by omega), Option.bind_some, m_lesser (by omega) hm, Option.bind_some]
      congr 2
      unfold pv_dg
      split <;> (repeat' split) <;> omega
    unfold f_X12_danger
    simp (disch := omega) only [xI_le, xI_lt, xI_eq, xI_0, xI_ib, if_pos, if_neg, if_true, if_false, xI_cl, Int.toNat_natCast, iI_m, iI_a, iI_s, iI_1, xI_n, Option.bind_some, Int.natCast_add, Int.natCast_one, xI_zb, if_bI0, if_bI1, xI_rn, xI_ti, m_isLetter0 hv R.1.1 hr, m_goes1, hd]
  · rw [if_neg c]
    refine moC_c (b := iI 0) (c := iI 1) ?_ R agr2
    unfold f_X12_danger
    simp (disch := omega) only [xI_le, xI_lt, xI_eq, xI_0, xI_ib, if_pos, if_neg, if_true, if_false, xI_cl, Int.toNat_natCast, iI_m, iI_a, iI_s, iI_1, xI_n, Option.bind_some, Int.natCast_add, Int.natCast_one, xI_zb, if_bI0, if_bI1, xI_rn, xI_ti, m_isLetter0 hv R.1.1 hr, m_goes0]
/-- the greatest bend behind whole arcs is the greatest at the ends of arcs -/
theorem pv_bT_end {v : pv_T} (hv : pv_ok v) {n : Nat} (hn : n ≤ v.1 0) : pv_bT v (pv_tA v n) (v.1 0) = pv_bA v n := by
  have e1 : ∀ m, m ≤ n → pv_bT v (pv_tA v n) m = pv_bA v m := by
    intro m
    induction m with
    | zero => intro _; rfl
    | succ m ih =>
      intro hm
      have hb := pv_tA_mono hv (i := m + 1) (j := n) hm hn
      rw [pv_tA_s] at hb
      have hc := hv.2.1 m (by omega)
      have hp : pv_ps v (pv_tA v n) m = 10 * v.2 2 m := by unfold pv_ps; rw [if_neg (by omega)]; split <;> omega
      show pv_bT v (pv_tA v n) m + (if v.2 3 m = 0 then pv_ps v (pv_tA v n) m else - pv_ps v (pv_tA v n) m) = pv_bA v m + (if v.2 3 m = 0 then 10 * v.2 2 m else - (10 * v.2 2 m))
      rw [ih (by omega), hp]
  have e2 : ∀ m, n ≤ m → m ≤ v.1 0 → pv_bT v (pv_tA v n) m = pv_bA v n := by
    intro m
    induction m with
    | zero => intro q _; have : n = 0 := by omega
              subst this; rfl
    | succ m ih =>
      intro q1 q2
      by_cases e : n = m + 1
      · rw [← e]; exact e1 n (Nat.le_refl _)
      · have hb := pv_tA_mono hv (i := n) (j := m) (by omega) (by omega)
        have hc := hv.2.1 m (by omega)
        have hp : pv_ps v (pv_tA v n) m = 0 := by unfold pv_ps; split <;> (try split) <;> omega
        show pv_bT v (pv_tA v n) m + (if v.2 3 m = 0 then pv_ps v (pv_tA v n) m else - pv_ps v (pv_tA v n) m) = _
        rw [ih (by omega) (by omega), hp]
        split <;> omega
  exact e2 _ hn (Nat.le_refl _)
theorem cl_farthestLeft (ok : Ok st) (R : ClR h st) : f_X11_farthestLeft h = some (iI (pv_gB st.1 (st.1.1 0))) := by
  unfold f_X11_farthestLeft
  rw [k_greatestBend ok.1.1 R.1.1, Option.bind_some]
theorem mo_farthestLeft (ok : Ok st) (R : MoR h st) : ∃ h3, f_X12_farthestLeft h = some (iI (pv_gB st.1 (st.1.1 0)), h3) ∧ MoR h3 st ∧ CFr h h3 := by
  have hv := ok.1.1
  have h8 := hv.1
  have Rc : mo_pl (am_u h (.inl 0) 0 0 (iI 0)) st.1 := mo_code R.1.1
  refine ⟨am_u h (.inl 0) 0 0 (iI 0), ?_, R.code, CFr.code⟩
  have s := ch_to (fun i : Nat => f_X12_farthestLeft_9 (iI (pv_gB st.1 (i - 1))) (iI i) (am_u h (.inl 0) 0 0 (iI 0))) (Nat.zero_le (st.1.1 0 + 1)) (fun i _ hi => by
    show f_X12_farthestLeft_9 _ _ _ = f_X12_farthestLeft_9 _ _ _
    have ht := pv_tA_b hv (n := i) (by omega)
    have hg := pv_gB_b hv (n := i - 1) (by omega)
    have hb := pv_bA_b hv (n := i) (by omega)
    have he := pv_bT_end hv (n := i) (by omega)
    have hgi : (if pv_gB st.1 (i - 1) < pv_bA st.1 i then pv_bA st.1 i else pv_gB st.1 (i - 1)) = pv_gB st.1 i := by
      cases i with
      | zero => rfl
      | succ i => rfl
    rw [e_X12_farthestLeft_9]
    simp (disch := omega) only [xI_le, xI_lt, xI_eq, xI_0, xI_ib, if_pos, if_neg, if_true, if_false, xI_cl, Int.toNat_natCast, iI_m, iI_a, iI_s, iI_1, xI_n, Option.bind_some, Int.natCast_add, Int.natCast_one, xI_zb, if_bI0, if_bI1, xI_rn, xI_ti, Int.toNat_zero, Rc.1.1, m_turnBefore hv Rc (n := i) (by omega), m_bend hv Rc (t := pv_tA st.1 i) (by omega), he, m_greater (a := pv_gB st.1 (i - 1)) (b := pv_bA st.1 i) (by omega) (by omega), hgi, Nat.add_sub_cancel])
  unfold f_X12_farthestLeft am_lt
  refine Eq.trans s ?_
  show f_X12_farthestLeft_9 _ _ _ = _
  rw [e_X12_farthestLeft_9, Nat.add_sub_cancel]
  simp (disch := omega) only [xI_le, xI_lt, xI_eq, xI_0, xI_ib, if_pos, if_neg, if_true, if_false, xI_cl, Int.toNat_natCast, iI_m, iI_a, iI_s, iI_1, xI_n, Option.bind_some, Int.natCast_add, Int.natCast_one, xI_zb, if_bI0, if_bI1, xI_rn, xI_ti, Int.toNat_zero, Rc.1.1]
end ROO
