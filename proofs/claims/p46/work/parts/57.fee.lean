/-! feed, reportByte -/
section FEE
variable {h : am_H} {st : St}
def fee (b : Nat × (Nat → Int)) (x1 x2 x3 x4 x5 : Int32) : Nat × (Nat → Int) := app4 (app4 (app4 (app4 (app4 b x1) x2) x3) x4) x5
def sFe (st : St) (x1 x2 x3 x4 x5 : Int32) : St := if st.2.2.2.1.1 ≤ 480 then stB st (fee st.2.2.2.1 x1 x2 x3 x4 x5) st.2.2.2.2.1 else st
def oFe (st : St) : Int32 ⊕ Nat := if st.2.2.2.1.1 ≤ 480 then .inl (iI (st.2.2.2.1.1 + 20)) else .inr 0
theorem fee_n (b : Nat × (Nat → Int)) (x1 x2 x3 x4 x5 : Int32) : (fee b x1 x2 x3 x4 x5).1 = b.1 + 20 := rfl
theorem sFe_ok (ok : Ok st) {x1 x2 x3 x4 x5 : Int32} : Ok (sFe st x1 x2 x3 x4 x5) := by
  unfold sFe
  split
  · refine ⟨ok.1, ok.2.1, ok.2.2.1, ⟨?_, ?_⟩, ok.2.2.2.2⟩
    · show (fee st.2.2.2.1 x1 x2 x3 x4 x5).1 ≤ 500
      rw [fee_n]; omega
    · exact app4_ok (app4_ok (app4_ok (app4_ok (app4_ok ok.2.2.2.1.2))))
  · exact ok
theorem cl_feed (ok : Ok st) (R : ClR h st) {x1 x2 x3 x4 x5 : Int32} : clC (f_X11_feed x1 x2 x3 x4 x5) h (sFe st x1 x2 x3 x4 x5) (oFe st) := by
  have hb := ok.2.2.2.1
  unfold sFe oFe
  by_cases c : st.2.2.2.1.1 ≤ 480
  · rw [if_pos c, if_pos c]
    obtain ⟨h1, e1, r1, k1⟩ := k_append (by omega) (show cl_bf h st.2.2.2.1 from R.2.2.2.1) x1
    obtain ⟨h2, e2, r2, k2⟩ := k_append (by show _ + 4 + 4 ≤ 500; omega) r1 x2
    obtain ⟨h3, e3, r3, k3⟩ := k_append (by show _ + 4 + 4 + 4 ≤ 500; omega) r2 x3
    obtain ⟨h4, e4, r4, k4⟩ := k_append (by show _ + 4 + 4 + 4 + 4 ≤ 500; omega) r3 x4
    obtain ⟨h5, e5, r5, k5⟩ := k_append (by show _ + 4 + 4 + 4 + 4 + 4 ≤ 500; omega) r4 x5
    have w := ((wr_X10_append e1).tr (wr_X10_append e2)).tr (((wr_X10_append e3).tr (wr_X10_append e4)).tr (wr_X10_append e5))
    refine ⟨h5, ?_, ClR.at8 (w.mono (by simp)) R r5 ⟨?_, ?_⟩, w.MF rfl⟩
    · unfold f_X11_feed
      simp (disch := omega) only [xI_le, xI_lt, xI_eq, xI_0, xI_ib, if_pos, if_neg, if_true, if_false, xI_cl, Int.toNat_natCast, iI_m, iI_a, iI_s, iI_1, xI_n, Option.bind_some, Int.natCast_add, Int.natCast_one, xI_zb, if_bI0, if_bI1, xI_rn, xI_ti, R.2.2.2.1.1, e1, e2, e3, e4, e5]
      rw [r5.1]
      show some (Sum.inl (iI _), h5) = _
      rfl
    · rw [k5 6 (by omega), k4 6 (by omega), k3 6 (by omega), k2 6 (by omega), k1 6 (by omega)]; exact R.2.2.2.2.1.1
    · rw [k5 7 (by omega), k4 7 (by omega), k3 7 (by omega), k2 7 (by omega), k1 7 (by omega)]; exact R.2.2.2.2.1.2
  · rw [if_neg c, if_neg c]
    refine clC_w (h1 := h) ?_ (Wr.rf (L := [])) rfl rfl R
    unfold f_X11_feed
    simp (disch := omega) only [xI_le, xI_lt, xI_eq, xI_0, xI_ib, if_pos, if_neg, if_true, if_false, xI_cl, Int.toNat_natCast, iI_m, iI_a, iI_s, iI_1, xI_n, Option.bind_some, Int.natCast_add, Int.natCast_one, xI_zb, if_bI0, if_bI1, xI_rn, xI_ti, R.2.2.2.1.1]
def oRB (st : St) (r : Int) : Int32 ⊕ Nat := if 0 ≤ r ∧ r ≤ (st.2.2.2.2.2.2.1 : Int) - 1 then .inl (iI (st.2.2.2.2.2.2.2 r.toNat)) else .inr 2
end FEE
