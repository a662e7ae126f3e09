/-! rows copied; slips, if -/
def oSl1 (v : pv_T) (s : Int) : Int := ((enA 1000 (pu v 0 0 s) (v.1 1)).2.1 3 : Int) - v.1 3
theorem oSl1_b (v : pv_T) (s : Int) : 0 ≤ oSl1 v s ∧ oSl1 v s ≤ 4 * v.1 1 := by
  have := enA_3 (lim := 1000) (v := pu v 0 0 s) (v.1 1)
  have e : (pu v 0 0 s).1 3 = v.1 3 := rfl
  unfold oSl1
  omega
theorem pu00_W {v : pv_T} {s : Int} (hv : pvW v) (hs : 0 ≤ s ∧ s ≤ 99) : pvW (pu v 0 0 s) := by
  obtain ⟨⟨h1, h2, h3, h4, h5, h6, h7⟩, h8⟩ := hv
  exact ⟨⟨h1, h2, h3, h4, h5, h6, hs.1, hs.2, h7.2.2⟩, h8⟩
section WHA
variable {h : am_H} {st : St}
theorem cl_slipsWith (ok : Ok st) (R : ClR h st) {s : Int} (hs : 0 ≤ s ∧ s ≤ 99) : ∃ h1, f_X11_slipsWith (iI s) h = some (iI (oSl1 st.1 s), h1) ∧ ClR h1 st ∧ MFr h h1 := by
  have hv := pvW_of ok.1.1
  have hw := pu00_W hv hs
  obtain ⟨r0, r1, r2, r3⟩ := R.1.2.2.2.1
  have e1 : f_X1_copyFrom (.inl 1) 2 (.inr 0) 16 h = some (am_u (am_u (am_u (am_u h (.inl 1) 2 0 (iI (st.1.2 0 0))) (.inl 1) 2 1 (iI (st.1.2 0 2))) (.inl 1) 2 2 (iI (st.1.2 0 3))) (.inl 1) 2 3 (iI (st.1.2 0 4))) := by
    unfold f_X1_copyFrom
    simp only [am_lt, am_u_row (show ((.inr 0 : am_G), 16) ≠ (.inl 1, 2) by simp), r0, r1, r2, r3]
  generalize eh1 : (am_u (am_u (am_u (am_u h (.inl 1) 2 0 (iI (st.1.2 0 0))) (.inl 1) 2 1 (iI (st.1.2 0 2))) (.inl 1) 2 2 (iI (st.1.2 0 3))) (.inl 1) 2 3 (iI (st.1.2 0 4))) = h1 at e1
  have w1 := wr_X1_copyFrom e1
  have w2 : Wr [(.inl 1, 2)] h (am_u h1 (.inl 1) 2 0 (iI s)) := w1.tr (Wr.u (by simp))
  have G : cl_g (am_u h1 (.inl 1) 2 0 (iI s)) (.inl 1) 2 (gvO (pu st.1 0 0 s)) := by
    subst eh1
    refine ⟨?_, ?_, ?_, ?_⟩ <;> simp only [au_s] <;> rfl
  obtain ⟨h2, e2⟩ := k_slipsBy hw ok.1.1.1.2.2.2 (R.1.1.eq (w2.P (by simp))) (R.1.2.1.eq (w2.P (by simp))) G
  have e3 : f_X11_slipsWith (iI s) h = some (iI (oSl1 st.1 s), h2) := by
    unfold f_X11_slipsWith
    rw [e1, Option.bind_some]
    show (f_X5_slipsBy 0 (am_u h1 (.inl 1) 2 0 (iI s))).bind _ = _
    rw [e2, Option.bind_some]
    have := enA_sl (lim := 1000) hw (st.1.1 1) (Nat.le_refl _)
    show some (iI ((enA 1000 (pu st.1 0 0 s) (st.1.1 1)).2.2 0 3 - (pu st.1 0 0 s).2 0 3), h2) = _
    rw [this]
    rfl
  have w := wr_X11_slipsWith e3
  exact ⟨h2, e3, ClR.wr w rfl R, w.MF rfl⟩
/-! slipsIf, leastSharp -/
theorem cl_slipsIf (ok : Ok st) (R : ClR h st) : ∃ h1, f_X11_slipsIf h = some (iI (oSl1 st.1 (st.1.2 0 0)), h1) ∧ ClR h1 st ∧ MFr h h1 := by
  obtain ⟨h1, e1, c1, m1⟩ := cl_slipsWith ok R (s := st.1.2 0 0) ⟨ok.1.1.2.2.2.2.2.2.1, ok.1.1.2.2.2.2.2.2.2.1⟩
  refine ⟨h1, ?_, c1, m1⟩
  unfold f_X11_slipsIf
  rw [R.1.2.2.2.1.1, e1, Option.bind_some]
def lsP (v : pv_T) : Nat := pv_fst (fun i => decide (oSl1 v ((i : Int) + 1) = 0)) 99 0
def oLs (v : pv_T) : Int := if lsP v < 99 then (lsP v : Int) + 1 else -1
theorem cl_leastSharp (ok : Ok st) (R : ClR h st) : ∃ h1, f_X11_leastSharp h = some (iI (oLs st.1), h1) ∧ ClR h1 st ∧ MFr h h1 := by
  have hm := pv_fst_le (fun i => decide (oSl1 st.1 ((i : Int) + 1) = 0)) 99 0
  have hat := pv_fst_at (fun i => decide (oSl1 st.1 ((i : Int) + 1) = 0)) 99 0
  have hlt := pv_fst_lt (fun i => decide (oSl1 st.1 ((i : Int) + 1) = 0)) 99 0
  have hb := oSl1_b st.1
  have h20 := ok.1.1.1.2.1
  simp only [decide_eq_true_eq, decide_eq_false_iff_not] at hat hlt
  unfold oLs lsP
  generalize pv_fst (fun i => decide (oSl1 st.1 ((i : Int) + 1) = 0)) 99 0 = m at hm hat hlt ⊢
  obtain ⟨s, e1, C1, M1⟩ := ch_rel (fun i s => f_X11_leastSharp_2 (iI ((i : Int) + 1)) s) (fun _ s => ClR s st ∧ MFr h s) (n := m) (fun i s hi hs => by
    obtain ⟨h1, e1, c1, m1⟩ := cl_slipsWith ok hs.1 (s := (i : Int) + 1) (by omega)
    have h9 := hlt i (by omega) hi
    have h7 := hb ((i : Int) + 1)
    refine ⟨h1, ?_, c1, hs.2.tr m1⟩
    show f_X11_leastSharp_2 _ _ = f_X11_leastSharp_2 _ _
    rw [e_X11_leastSharp_2]
    simp (disch := omega) only [xI_le, xI_lt, xI_eq, xI_0, xI_ib, if_pos, if_neg, if_true, if_false, xI_cl, Int.toNat_natCast, iI_m, iI_a, iI_s, iI_1, xI_n, Option.bind_some, Int.natCast_add, Int.natCast_one, xI_zb, if_bI0, if_bI1, xI_rn, xI_ti, e1]) (s0 := h) ⟨R, MFr.rf⟩
  have e0 : f_X11_leastSharp h = f_X11_leastSharp_2 (iI ((m : Int) + 1)) s := e1
  by_cases c : m < 99
  · obtain ⟨h1, e2, c1, m1⟩ := cl_slipsWith ok C1 (s := (m : Int) + 1) (by omega)
    refine ⟨h1, ?_, c1, M1.tr m1⟩
    rw [e0, e_X11_leastSharp_2, if_pos c]
    have h9 := hat (by omega)
    simp (disch := omega) only [xI_le, xI_lt, xI_eq, xI_0, xI_ib, if_pos, if_neg, if_true, if_false, xI_cl, Int.toNat_natCast, iI_m, iI_a, iI_s, iI_1, xI_n, Option.bind_some, Int.natCast_add, Int.natCast_one, xI_zb, if_bI0, if_bI1, xI_rn, xI_ti, e2, h9]
  · refine ⟨s, ?_, C1, M1⟩
    rw [e0, e_X11_leastSharp_2, if_neg c]
    simp (disch := omega) only [xI_le, xI_lt, xI_eq, xI_0, xI_ib, if_pos, if_neg, if_true, if_false, xI_cl, Int.toNat_natCast, iI_m, iI_a, iI_s, iI_1, xI_n, Option.bind_some, Int.natCast_add, Int.natCast_one, xI_zb, if_bI0, if_bI1, xI_rn, xI_ti]
end WHA
