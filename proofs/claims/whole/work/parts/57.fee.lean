/-! feed, reportByte -/
section FEE
variable {h : am_H} {st : St}
def fee (b : Nat × (Nat → Int)) (x1 x2 x3 x4 x5 : Int32) : Nat × (Nat → Int) := app4 (app4 (app4 (app4 (app4 b x1) x2) x3) x4) x5
def sFe (st : St) (x1 x2 x3 x4 x5 : Int32) : St := if st.2.2.2.1.1 ≤ 480 then stB st (fee st.2.2.2.1 x1 x2 x3 x4 x5) st.2.2.2.2.1 else st
def oFe (st : St) : Int32 ⊕ Nat := if st.2.2.2.1.1 ≤ 480 then .inl (iI (st.2.2.2.1.1 + 20)) else .inr 0
theorem fee_n (b : Nat × (Nat → Int)) (x1 x2 x3 x4 x5 : Int32) : (fee b x1 x2 x3 x4 x5).1 = b.1 + 20 := rfl
theorem sFe_ok (ok : Ok st) {x1 x2 x3 x4 x5 : Int32} : Ok (sFe st x1 x2 x3 x4 x5) := by
  unfold sFe
  split
  · refine ⟨ok.1, ok.2.1, ok.2.2.1, ⟨?_, ?_⟩, ok.2.2.2.2⟩
    · show (fee st.2.2.2.1 x1 x2 x3 x4 x5).1 ≤ 500
      rw [fee_n]; omega
    · exact app4_ok (app4_ok (app4_ok (app4_ok (app4_ok ok.2.2.2.1.2))))
  · exact ok
theorem cl_feed (ok : Ok st) (R : ClR h st) {x1 x2 x3 x4 x5 : Int32} : clC (f_X11_feed x1 x2 x3 x4 x5) h (sFe st x1 x2 x3 x4 x5) (oFe st) := by
  have hb := ok.2.2.2.1
  unfold sFe oFe
  by_cases c : st.2.2.2.1.1 ≤ 480
  · rw [if_pos c, if_pos c]
    obtain ⟨h1, e1, r1, k1⟩ := k_append (by omega) (show cl_bf h st.2.2.2.1 from R.2.2.2.1) x1
    obtain ⟨h2, e2, r2, k2⟩ := k_append (by show _ + 4 + 4 ≤ 500; omega) r1 x2
    obtain ⟨h3, e3, r3, k3⟩ := k_append (by show _ + 4 + 4 + 4 ≤ 500; omega) r2 x3
    obtain ⟨h4, e4, r4, k4⟩ := k_append (by show _ + 4 + 4 + 4 + 4 ≤ 500; omega) r3 x4
    obtain ⟨h5, e5, r5, k5⟩ := k_append (by show _ + 4 + 4 + 4 + 4 + 4 ≤ 500; omega) r4 x5
    have w := ((wr_X10_append e1).tr (wr_X10_append e2)).tr (((wr_X10_append e3).tr (wr_X10_append e4)).tr (wr_X10_append e5))
    refine ⟨h5, ?_, ClR.at8 (w.mono (by simp)) R r5 ⟨?_, ?_⟩, w.MF rfl⟩
    · unfold f_X11_feed
      simp (disch := omega) only [xI_le, xI_lt, xI_eq, xI_0, xI_ib, if_pos, if_neg, if_true, if_false, xI_cl, Int.toNat_natCast, iI_m, iI_a, iI_s, iI_1, xI_n, Option.bind_some, Int.natCast_add, Int.natCast_one, xI_zb, if_bI0, if_bI1, xI_rn, xI_ti, R.2.2.2.1.1, e1, e2, e3, e4, e5]
      rw [r5.1]
      show some (Sum.inl (iI _), h5) = _
      rfl
    · rw [k5 6 (by omega), k4 6 (by omega), k3 6 (by omega), k2 6 (by omega), k1 6 (by omega)]; exact R.2.2.2.2.1.1
    · rw [k5 7 (by omega), k4 7 (by omega), k3 7 (by omega), k2 7 (by omega), k1 7 (by omega)]; exact R.2.2.2.2.1.2
  · rw [if_neg c, if_neg c]
    refine clC_w (h1 := h) ?_ (Wr.rf (L := [])) rfl rfl R
    unfold f_X11_feed
    simp (disch := omega) only [xI_le, xI_lt, xI_eq, xI_0, xI_ib, if_pos, if_neg, if_true, if_false, xI_cl, Int.toNat_natCast, iI_m, iI_a, iI_s, iI_1, xI_n, Option.bind_some, Int.natCast_add, Int.natCast_one, xI_zb, if_bI0, if_bI1, xI_rn, xI_ti, R.2.2.2.1.1]
theorem mo_feed (ok : Ok st) (R : MoR h st) {x1 x2 x3 x4 x5 : Int32} : moC (f_X12_feed x1 x2 x3 x4 x5) h (sFe st x1 x2 x3 x4 x5) (oFe st) ex0 := by
  have hb := ok.2.2.2.1
  unfold sFe oFe
  by_cases c : st.2.2.2.1.1 ≤ 480
  · rw [if_pos c, if_pos c]
    have Rc := R.code (x := iI 0)
    obtain ⟨h1, e1, r1, k1⟩ := m_four (by omega) (show mo_bf (am_u h (.inl 0) 0 0 (iI 0)) st.2.2.2.1 from Rc.2.2.2.1) x1
    obtain ⟨h2, e2, r2, k2⟩ := m_four (by show _ + 4 + 4 ≤ 500; omega) r1 x2
    obtain ⟨h3, e3, r3, k3⟩ := m_four (by show _ + 4 + 4 + 4 ≤ 500; omega) r2 x3
    obtain ⟨h4, e4, r4, k4⟩ := m_four (by show _ + 4 + 4 + 4 + 4 ≤ 500; omega) r3 x4
    obtain ⟨h5, e5, r5, k5⟩ := m_four (by show _ + 4 + 4 + 4 + 4 + 4 ≤ 500; omega) r4 x5
    have w := ((wr_X12_four e1).tr (wr_X12_four e2)).tr (((wr_X12_four e3).tr (wr_X12_four e4)).tr (wr_X12_four e5))
    have kk : ∀ j, j ≠ 2 → h5.1 (.inl 0) 0 j = (am_u h (.inl 0) 0 0 (iI 0)).1 (.inl 0) 0 j := fun j hj => by rw [k5 j hj, k4 j hj, k3 j hj, k2 j hj, k1 j hj]
    refine ⟨iI (st.2.2.2.1.1 + 20), h5, ?_, MoR.at0 (w.mono (by simp)) ⟨kk 21 (by omega), kk 22 (by omega), kk 35 (by omega), kk 36 (by omega)⟩ Rc r5 ⟨?_, ?_⟩, CFr.code.tr (w.CF rfl), ?_⟩
    · unfold f_X12_feed f_X12_feed_19
      simp (disch := omega) only [xI_le, xI_lt, xI_eq, xI_0, xI_ib, if_pos, if_neg, if_true, if_false, xI_cl, Int.toNat_natCast, iI_m, iI_a, iI_s, iI_1, xI_n, Option.bind_some, Int.natCast_add, Int.natCast_one, xI_zb, if_bI0, if_bI1, xI_rn, xI_ti, R.2.2.2.1.1, m_goes1, e1, e2, e3, e4, e5]
      rw [r5.1]
      show some (iI _, h5) = _
      rfl
    · rw [kk 10 (by omega)]; exact Rc.2.2.2.2.1.1
    · rw [kk 11 (by omega)]; exact Rc.2.2.2.2.1.2
    · rw [kk 0 (by omega), au_s, if_pos rfl]; exact agrv
  · rw [if_neg c, if_neg c]
    refine moC_c (b := iI 0) (c := iI 1) ?_ R agr0
    unfold f_X12_feed f_X12_feed_19
    simp (disch := omega) only [xI_le, xI_lt, xI_eq, xI_0, xI_ib, if_pos, if_neg, if_true, if_false, xI_cl, Int.toNat_natCast, iI_m, iI_a, iI_s, iI_1, xI_n, Option.bind_some, Int.natCast_add, Int.natCast_one, xI_zb, if_bI0, if_bI1, xI_rn, xI_ti, R.2.2.2.1.1, m_goes0]
def oRB (st : St) (r : Int) : Int32 ⊕ Nat := if 0 ≤ r ∧ r ≤ (st.2.2.2.2.2.2.1 : Int) - 1 then .inl (iI (st.2.2.2.2.2.2.2 r.toNat)) else .inr 2
theorem cl_reportByte (ok : Ok st) (R : ClR h st) {r : Int} (hr : -2147483648 ≤ r ∧ r < 2147483648) : clC (fun h => (f_X11_reportByte (iI r) h).map (fun a => (a, h))) h st (oRB st r) := by
  have hb := ok.2.2.2.2
  refine clC_r ?_ R
  unfold f_X11_reportByte oRB
  by_cases c : 0 ≤ r ∧ r ≤ (st.2.2.2.2.2.2.1 : Int) - 1
  · simp (disch := omega) only [xI_le, xI_lt, xI_eq, xI_0, xI_ib, if_pos, if_neg, if_true, if_false, xI_cl, Int.toNat_natCast, iI_m, iI_a, iI_s, iI_1, xI_n, Option.bind_some, Int.natCast_add, Int.natCast_one, xI_zb, if_bI0, if_bI1, xI_rn, xI_ti, R.2.2.2.2.2.1, k_isWithin (n := r) (a := 0) (b := (st.2.2.2.2.2.2.1 : Int) - 1) (by omega) (by omega) (by omega), R.2.2.2.2.2.2 r.toNat (by omega)]
  · simp (disch := omega) only [xI_le, xI_lt, xI_eq, xI_0, xI_ib, if_pos, if_neg, if_true, if_false, xI_cl, Int.toNat_natCast, iI_m, iI_a, iI_s, iI_1, xI_n, Option.bind_some, Int.natCast_add, Int.natCast_one, xI_zb, if_bI0, if_bI1, xI_rn, xI_ti, R.2.2.2.2.2.1, k_isWithin (n := r) (a := 0) (b := (st.2.2.2.2.2.2.1 : Int) - 1) (by omega) (by omega) (by omega)]
theorem mo_reportByte (ok : Ok st) (R : MoR h st) {r : Int} (hr : -2147483648 ≤ r ∧ r < 2147483648) : moC (f_X12_reportByte (iI r)) h st (oRB st r) ex2 := by
  have hb := ok.2.2.2.2
  unfold oRB
  have key : ∀ j, j ≠ 0 → ∀ x, (am_u h (.inl 0) 0 0 x).1 (.inl 0) j = h.1 (.inl 0) j := fun j hj x => am_u_row (fun e => hj (by cases e; rfl))
  cases e : st.2.2.2.2.2.1 with
  | false =>
    have h0 := hb.2.1 e
    have e36 : h.1 (.inl 0) 0 36 = iI 0 := by rw [R.2.2.2.2.2.1, e]; rfl
    rw [if_neg (by omega)]
    refine moC_c (b := iI 0) (c := iI 1) ?_ R agr2
    unfold f_X12_reportByte f_X12_reportByte_29
    simp (disch := omega) only [xI_le, xI_lt, xI_eq, xI_0, xI_ib, if_pos, if_neg, if_true, if_false, xI_cl, Int.toNat_natCast, iI_m, iI_a, iI_s, iI_1, xI_n, Option.bind_some, Int.natCast_add, Int.natCast_one, xI_zb, if_bI0, if_bI1, xI_rn, xI_ti, e36, m_goes0]
  | true =>
    have e36 : h.1 (.inl 0) 0 36 = iI 1 := by rw [R.2.2.2.2.2.1, e]; rfl
    obtain ⟨e35, er⟩ := R.2.2.2.2.2.2 e
    by_cases c : 0 ≤ r ∧ r ≤ (st.2.2.2.2.2.2.1 : Int) - 1
    · rw [if_pos c]
      refine moC_c (c := iI 0) ?_ R agrv
      unfold f_X12_reportByte f_X12_reportByte_29
      simp (disch := omega) only [xI_le, xI_lt, xI_eq, xI_0, xI_ib, if_pos, if_neg, if_true, if_false, xI_cl, Int.toNat_natCast, iI_m, iI_a, iI_s, iI_1, xI_n, Option.bind_some, Int.natCast_add, Int.natCast_one, xI_zb, if_bI0, if_bI1, xI_rn, xI_ti, e36, e35, m_isInz (n := r) (b := (st.2.2.2.2.2.2.1 : Int) - 1) (xL_i (by omega) (by omega)) hr, m_goes1, key 17 (by omega), er r.toNat (by omega)]
    · rw [if_neg c]
      refine moC_c (b := iI 0) (c := iI 1) ?_ R agr2
      unfold f_X12_reportByte f_X12_reportByte_29
      simp (disch := omega) only [xI_le, xI_lt, xI_eq, xI_0, xI_ib, if_pos, if_neg, if_true, if_false, xI_cl, Int.toNat_natCast, iI_m, iI_a, iI_s, iI_1, xI_n, Option.bind_some, Int.natCast_add, Int.natCast_one, xI_zb, if_bI0, if_bI1, xI_rn, xI_ti, e36, e35, m_isInz (n := r) (b := (st.2.2.2.2.2.2.1 : Int) - 1) (xL_i (by omega) (by omega)) hr, m_goes0]
end FEE
