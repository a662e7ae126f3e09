/-! tightestIf, both sides -/
section TIG
variable {h : am_H} {st : St}
theorem k_word {v : pv_T} {n : Nat} {b : Nat → Int} (hn : n ≤ 8) (hb : ∀ i, i < n → 97 ≤ b i ∧ b i ≤ 122) (R9 : ∀ i, i < n → h.1 (.inl 1) 9 i = iI (sby (b i))) (R : cl_na h 2 v) (R0 : h.1 (.inr 2) 6 4 = iI 0) : ∃ h', f_X4_addWord 2 (iI 0) (iI n) h = some h' ∧ cl_na h' 2 (wrdA v n b) := by
  obtain ⟨s, e1, r1, r2, r3, r4⟩ := ch_rel (fun i s => f_X4_addWord_3 2 (iI n) (iI i) s) (fun i s => s.1 (.inr 2) 6 4 = iI i ∧ (∀ j, j < i → s.1 (.inr 2) 7 j = iI (b j - 97) ∧ s.1 (.inr 2) 8 j = iI 0 ∧ s.1 (.inr 2) 9 j = iI 0) ∧ s.1 (.inr 2) 10 = h.1 (.inr 2) 10 ∧ s.1 (.inl 1) 9 = h.1 (.inl 1) 9) (n := n) (fun i s hi hs => by
    obtain ⟨p1, p2, p3, p4⟩ := hs
    have hbi := hb i hi
    have ep := k_placeAt (h := s) (b := b) hi (by omega) hbi (by rw [p4]; exact R9)
    refine ⟨am_u (am_u (am_u (am_u s (.inr 2) 7 i (iI (b i - 97))) (.inr 2) 8 i (iI 0)) (.inr 2) 9 i (iI 0)) (.inr 2) 6 4 (iI ((i : Int) + 1)), ?_, ?_, fun j hj => ?_, ?_, ?_⟩
    · show f_X4_addWord_3 _ _ _ _ = f_X4_addWord_3 _ _ _ _
      rw [e_X4_addWord_3]
      simp (disch := omega) only [xI_le, xI_lt, xI_eq, xI_0, xI_ib, if_pos, if_neg, if_true, if_false, xI_cl, Int.toNat_natCast, iI_m, iI_a, iI_s, iI_1, xI_n, Option.bind_some, Int.natCast_add, Int.natCast_one, xI_zb, if_bI0, if_bI1, xI_rn, xI_ti, ep, p1, k_isPlace (p := b i - 97) (by omega), am_lt, am_u_row (show ((.inr 2 : am_G), 6) ≠ (.inr 2, 7) by simp), am_u_row (show ((.inr 2 : am_G), 6) ≠ (.inr 2, 8) by simp), am_u_row (show ((.inr 2 : am_G), 6) ≠ (.inr 2, 9) by simp), nar_b]
    · rw [au_s, if_pos rfl]; rfl
    · refine ⟨?_, ?_, ?_⟩
      · rw [am_u_row (by simp), am_u_row (by simp), am_u_row (by simp), au_s]
        by_cases c : j = i
        · rw [if_pos c, c]
        · rw [if_neg c]; exact (p2 j (by omega)).1
      · rw [am_u_row (by simp), am_u_row (by simp), au_s, am_u_row (by simp)]
        by_cases c : j = i
        · rw [if_pos c]
        · rw [if_neg c]; exact (p2 j (by omega)).2.1
      · rw [am_u_row (by simp), au_s, am_u_row (by simp), am_u_row (by simp)]
        by_cases c : j = i
        · rw [if_pos c]
        · rw [if_neg c]; exact (p2 j (by omega)).2.2
    · rw [am_u_row (by simp), am_u_row (by simp), am_u_row (by simp), am_u_row (by simp)]; exact p3
    · rw [am_u_row (by simp), am_u_row (by simp), am_u_row (by simp), am_u_row (by simp)]; exact p4) (s0 := h) ⟨R0, fun j hj => absurd hj (Nat.not_lt_zero j), rfl, rfl⟩
  refine ⟨s, ?_, r1, r2, fun i hi => ?_⟩
  · refine Eq.trans e1 ?_
    show f_X4_addWord_3 _ _ _ _ = _
    rw [e_X4_addWord_3]
    simp (disch := omega) only [xI_le, xI_lt, xI_eq, xI_0, xI_ib, if_pos, if_neg, if_true, if_false, xI_cl, Int.toNat_natCast, iI_m, iI_a, iI_s, iI_1, xI_n, Option.bind_some, Int.natCast_add, Int.natCast_one, xI_zb, if_bI0, if_bI1, xI_rn, xI_ti]
  · rw [r3]; exact R.2.2 i hi
theorem cl_tightestIf (ok : Ok st) (R : ClR h st) : clC f_X11_tightestIf h (sE st) (oTi st) := by
  have hv := ok.1.1
  have hb := ok.2.2.2.1
  have ew := k_isOneWord ok R
  have w0 : Wr [(.inl 1, 8), (.inl 1, 9)] h (am_u h (.inl 1) 8 1 (iI 0)) := Wr.u (by simp)
  have C0 : ClR (am_u h (.inl 1) 8 1 (iI 0)) (sE st) := ClR.at8 w0 R ⟨by rw [au_s, if_pos rfl]; rfl, fun i hi => absurd hi (Nat.not_lt_zero i)⟩ ⟨by rw [au_s, if_neg (by omega)]; exact R.2.2.2.2.1.1, by rw [au_s, if_neg (by omega)]; exact R.2.2.2.2.1.2⟩
  unfold oTi
  by_cases c : plain st.2.2.2.1
  · rw [if_pos c]
    rw [show bI (plain st.2.2.2.1) = 1 from if_pos c] at ew
    have hp : ∀ i, i < st.2.2.2.1.1 → 97 ≤ st.2.2.2.1.2 i ∧ st.2.2.2.1.2 i ≤ 122 := fun i hi => plain_in c hi
    obtain ⟨h1, e1, R1⟩ := k_copyPl (k := 2) (k2 := 0) (by omega) hv C0.1
    have w1 := wr_X5_copyFrom e1
    have wu : Wr [(.inr 2, 6)] h1 (am_u h1 (.inr 2) 6 4 (iI 0)) := Wr.u (by simp)
    have r9 : ∀ i, i < st.2.2.2.1.1 → (am_u h1 (.inr 2) 6 4 (iI 0)).1 (.inl 1) 9 i = iI (sby (st.2.2.2.1.2 i)) := fun i hi => by
      rw [am_u_row (by simp), w1.1 _ _ (by simp), am_u_row (by simp)]
      exact R.2.2.2.1.2 i hi
    have hw := wrdA_ok (n := st.2.2.2.1.1) hv c.2.1 hp
    have R1n := R1.2.1
    -- the letters' row 6 differs, its widths stay
    obtain ⟨h2, e2, R2⟩ : ∃ h', f_X4_addWord 2 (iI 0) (iI st.2.2.2.1.1) (am_u h1 (.inr 2) 6 4 (iI 0)) = some h' ∧ cl_na h' 2 (wrdA st.1 st.2.2.2.1.1 st.2.2.2.1.2) := by
      refine k_word (v := (fun k => if k = 1 then 0 else st.1.1 k, st.1.2)) c.2.1 hp r9 ⟨by rw [au_s, if_pos rfl]; rfl, fun i hi => absurd hi (Nat.not_lt_zero i), fun i hi => ?_⟩ (by rw [au_s, if_pos rfl])
      rw [am_u_row (by simp)]
      exact R1n.2.2 i hi
    have w2 := wr_X4_addWord e2
    have Rc : cl_cu h2 2 (wrdA st.1 st.2.2.2.1.1 st.2.2.2.1.2) := by
      have q := R1.1
      unfold cl_cu at q ⊢
      rw [w2.1 _ 1 (by simp), w2.1 _ 2 (by simp), w2.1 _ 3 (by simp), w2.1 _ 4 (by simp), w2.1 _ 5 (by simp), am_u_row (by simp), am_u_row (by simp), am_u_row (by simp), am_u_row (by simp), am_u_row (by simp)]
      exact q
    obtain ⟨h3, e3, Rl⟩ := k_measure hw Rc R2
    have w3 := wr_X3_measure e3
    have hti : pv_ti (wrdA st.1 st.2.2.2.1.1 st.2.2.2.1.2) (st.2.2.2.1.1 + 1) ≤ st.2.2.2.1.1 := pv_ti_le _ _
    have et : f_X3_tightestRoom h3 = some (iI (pv_ti (wrdA st.1 st.2.2.2.1.1 st.2.2.2.1.2) (st.2.2.2.1.1 + 1))) := k_tightestRoom hw Rl
    have c8 := c.2.1
    refine ⟨h3, ?_, ClR.wr w3 rfl (ClR.wr w2 rfl (ClR.wr wu rfl (ClR.wr w1 rfl C0))), (w0.MF rfl).tr ((w1.MF rfl).tr ((wu.MF rfl).tr ((w2.MF rfl).tr (w3.MF rfl))))⟩
    have e4 := Rl.2 (pv_ti (wrdA st.1 st.2.2.2.1.1 st.2.2.2.1.2) (st.2.2.2.1.1 + 1)) hti
    unfold f_X11_tightestIf
    simp (disch := omega) only [xI_le, xI_lt, xI_eq, xI_0, xI_ib, if_pos, if_neg, if_true, if_false, xI_cl, Int.toNat_natCast, iI_m, iI_a, iI_s, iI_1, xI_n, Option.bind_some, Int.natCast_add, Int.natCast_one, xI_zb, if_bI0, if_bI1, xI_rn, xI_ti, ew, R.2.2.2.1.1, am_lt, e1, e2, e3, et, e4]
    rfl
  · rw [if_neg c]
    rw [show bI (plain st.2.2.2.1) = 0 from if_neg c] at ew
    refine ⟨_, ?_, C0, w0.MF rfl⟩
    unfold f_X11_tightestIf
    simp (disch := omega) only [xI_le, xI_lt, xI_eq, xI_0, xI_ib, if_pos, if_neg, if_true, if_false, xI_cl, Int.toNat_natCast, iI_m, iI_a, iI_s, iI_1, xI_n, Option.bind_some, Int.natCast_add, Int.natCast_one, xI_zb, if_bI0, if_bI1, xI_rn, xI_ti, ew, am_lt]
theorem m_word {v : pv_T} {n : Nat} {b : Nat → Int} (hv : pv_ok v) (hn : n ≤ 8) (hb : ∀ i, i < n → 97 ≤ b i ∧ b i ≤ 122) (R1 : ∀ i, i < n → h.1 (.inl 0) 1 i = iI (b i)) (R : mo_pl h v) : ∃ s, f_X12_roomIf_13 (iI n) (iI 0) (am_u h (.inl 0) 2 1 (iI 0)) = f_X12_roomIf_13 (iI n) (iI n) s ∧ mo_x s (wrdA v n b) ∧ Wr [(.inl 0, 2)] h s := by
  have h8 := hv.1
  obtain ⟨s, e1, p1, p2, p3, p4⟩ := ch_rel (fun i s => f_X12_roomIf_13 (iI n) (iI i) s) (fun i s => s.1 (.inl 0) 2 1 = iI i ∧ (∀ j, j < i → s.1 (.inl 0) 2 (44 + 3 * j) = iI (b j - 97) ∧ s.1 (.inl 0) 2 (44 + 3 * j + 1) = iI 0 ∧ s.1 (.inl 0) 2 (44 + 3 * j + 2) = iI 0) ∧ (∀ j, j ≠ 1 → (j < 44 ∨ 104 ≤ j) → s.1 (.inl 0) 2 j = h.1 (.inl 0) 2 j) ∧ Wr [(.inl 0, 2)] h s) (n := n) (fun i s hi hs => by
    obtain ⟨p1, p2, p3, p4⟩ := hs
    have hbi := hb i hi
    have r1 : s.1 (.inl 0) 1 i = iI (b i) := by rw [p4.1 _ _ (by simp)]; exact R1 i hi
    refine ⟨am_u (am_u (am_u (am_u s (.inl 0) 2 (44 + 3 * i) (iI (b i - 97))) (.inl 0) 2 (44 + 3 * i + 1) (iI 0)) (.inl 0) 2 (44 + 3 * i + 2) (iI 0)) (.inl 0) 2 1 (iI ((i : Int) + 1)), ?_, ?_, fun j hj => ?_, fun j h1 h2 => ?_, p4.tr ((Wr.u (by simp)).tr ((Wr.u (by simp)).tr ((Wr.u (by simp)).tr (Wr.u (by simp)))))⟩
    · show f_X12_roomIf_13 _ _ _ = f_X12_roomIf_13 _ _ _
      rw [e_X12_roomIf_13]
      unfold f_X12_addsLetter f_X12_setsLetter
      simp (disch := omega) only [xI_le, xI_lt, xI_eq, xI_0, xI_ib, if_pos, if_neg, if_true, if_false, xI_cl, Int.toNat_natCast, iI_m, iI_a, iI_s, iI_1, xI_n, Option.bind_some, Int.natCast_add, Int.natCast_one, xI_zb, if_bI0, if_bI1, xI_rn, xI_ti, show (1 : Int).toNat = 1 from rfl, r1, p1, am_lt, au_s, show (44 + 3 * (i : Int) + 0).toNat = 44 + 3 * i from by omega, show (44 + 3 * (i : Int) + 1).toNat = 44 + 3 * i + 1 from by omega, show (44 + 3 * (i : Int) + 2).toNat = 44 + 3 * i + 2 from by omega]
    · rw [au_s, if_pos rfl]; rfl
    · refine ⟨?_, ?_, ?_⟩
      · rw [au_s, if_neg (by omega), au_s, if_neg (by omega), au_s, if_neg (by omega), au_s]
        by_cases c : j = i
        · rw [if_pos (by omega), c]
        · rw [if_neg (by omega)]; exact (p2 j (by omega)).1
      · rw [au_s, if_neg (by omega), au_s, if_neg (by omega), au_s]
        by_cases c : j = i
        · rw [if_pos (by omega)]
        · rw [if_neg (by omega), au_s, if_neg (by omega)]; exact (p2 j (by omega)).2.1
      · rw [au_s, if_neg (by omega), au_s]
        by_cases c : j = i
        · rw [if_pos (by omega)]
        · rw [if_neg (by omega), au_s, if_neg (by omega), au_s, if_neg (by omega)]; exact (p2 j (by omega)).2.2
    · rw [au_s, if_neg (by omega), au_s, if_neg (by omega), au_s, if_neg (by omega), au_s, if_neg (by omega)]; exact p3 j h1 h2) (s0 := am_u h (.inl 0) 2 1 (iI 0)) ⟨by rw [au_s, if_pos rfl]; rfl, fun j hj => absurd hj (Nat.not_lt_zero j), fun j h1 _ => by rw [au_s, if_neg h1], Wr.u (by simp)⟩
  refine ⟨s, e1, ?_, p4⟩
  obtain ⟨⟨r0, r1, r2, r3, r4, r5, r6, r7, r8⟩, ra, rl, rw', rk, rs⟩ := R
  refine ⟨⟨(p3 0 (by omega) (by omega)).trans r0, p1, (p3 2 (by omega) (by omega)).trans r2, (p3 3 (by omega) (by omega)).trans r3, (p3 4 (by omega) (by omega)).trans r4, trivial⟩, fun i hi c hc => ?_, fun i hi c hc => ?_, fun i hi => ?_, trivial⟩
  · have hi' : i < v.1 0 := hi
    rw [wrdA_o (by omega) (by omega) (by omega), p3 _ (by omega) (by omega)]; exact ra i hi c hc
  · have hi' : i < n := hi
    obtain ⟨q1, q2, q3⟩ := p2 i hi'
    have hc' : c = 0 ∨ c = 1 ∨ c = 2 := by omega
    rcases hc' with rfl | rfl | rfl
    · exact q1
    · exact q2
    · exact q3
  · rw [wrdA_o (by omega) (by omega) (by omega), p3 _ (by omega) (by omega)]; exact rw' i hi
theorem mo_tightestIf (ok : Ok st) (R : MoR h st) : moC f_X12_tightestIf h (sE st) (oTi st) ex1 := by
  have hv := ok.1.1
  have hb := ok.2.2.2.1
  have ew := m_isPlainWord ok R
  have w0 : Wr [(.inl 0, 0), (.inl 0, 1)] h (am_u h (.inl 0) 0 2 (iI 0)) := Wr.u (by simp)
  have M0 : MoR (am_u h (.inl 0) 0 2 (iI 0)) (sE st) := MoR.at0 w0 (fld0.u (by omega)) R ⟨by rw [au_s, if_pos rfl]; rfl, fun i hi => absurd hi (Nat.not_lt_zero i)⟩ ⟨by rw [au_s, if_neg (by omega)]; exact R.2.2.2.2.1.1, by rw [au_s, if_neg (by omega)]; exact R.2.2.2.2.1.2⟩
  have C0 : CFr h (am_u h (.inl 0) 0 2 (iI 0)) := w0.CF rfl
  unfold oTi
  by_cases c : plain st.2.2.2.1
  · rw [if_pos c]
    rw [show bI (plain st.2.2.2.1) = 1 from if_pos c] at ew
    have hp : ∀ i, i < st.2.2.2.1.1 → 97 ≤ st.2.2.2.1.2 i ∧ st.2.2.2.1.2 i ≤ 122 := fun i hi => plain_in c hi
    have c8 := c.2.1
    have M1 := M0.code (x := iI 0)
    obtain ⟨h1, e1, k1⟩ := m_leaves' (am_u (am_u h (.inl 0) 0 2 (iI 0)) (.inl 0) 0 0 (iI 0))
    have w1 := wr_X12_leaves e1
    have R1 : mo_pl h1 st.1 := by show mo_rw (h1.1 (.inl 0) 2) st.1; rw [k1]; exact M1.1.1
    have hw := wrdA_ok (n := st.2.2.2.1.1) hv c.2.1 hp
    obtain ⟨s, es, Rx, ws⟩ := m_word (h := h1) (n := st.2.2.2.1.1) hv c.2.1 hp (fun i hi => by
      rw [w1.1 _ _ (by simp), am_u_row (by simp), am_u_row (by simp)]
      exact R.2.2.2.1.2 i hi) R1
    have hti : pv_ti (wrdA st.1 st.2.2.2.1.1 st.2.2.2.1.2) (st.2.2.2.1.1 + 1) ≤ st.2.2.2.1.1 := pv_ti_le _ _
    have et : f_X12_tightestNow s = some (iI (pv_ti (wrdA st.1 st.2.2.2.1.1 st.2.2.2.1.2) (st.2.2.2.1.1 + 1))) := x_tightestNow hw Rx
    have er : f_X12_roomOf (iI (pv_ti (wrdA st.1 st.2.2.2.1.1 st.2.2.2.1.2) (st.2.2.2.1.1 + 1))) s = some (iI (tifV st)) := x_roomOf hw Rx hti
    obtain ⟨h3, e3, M3, C3⟩ := m_trial (sE_ok ok) M1 e1 ws (iI (tifV st))
    have e9 : f_X12_roomIf (iI st.2.2.2.1.1) (am_u (am_u h (.inl 0) 0 2 (iI 0)) (.inl 0) 0 0 (iI 0)) = some (iI (tifV st), h3) := by
      unfold f_X12_roomIf
      simp (disch := omega) only [xI_le, xI_lt, xI_eq, xI_0, xI_ib, if_pos, if_neg, if_true, if_false, xI_cl, Int.toNat_natCast, iI_m, iI_a, iI_s, iI_1, xI_n, Option.bind_some, Int.natCast_add, Int.natCast_one, xI_zb, if_bI0, if_bI1, xI_rn, xI_ti, e1, show (1 : Int).toNat = 1 from rfl, am_lt]
      rw [es, e_X12_roomIf_13]
      simp (disch := omega) only [xI_le, xI_lt, xI_eq, xI_0, xI_ib, if_pos, if_neg, if_true, if_false, xI_cl, Int.toNat_natCast, iI_m, iI_a, iI_s, iI_1, xI_n, Option.bind_some, Int.natCast_add, Int.natCast_one, xI_zb, if_bI0, if_bI1, xI_rn, xI_ti, et, er, e3]
    have w9 := wr_X12_roomIf e9
    refine ⟨iI (tifV st), h3, ?_, M3, C0.tr (CFr.code.tr C3), ?_⟩
    · unfold f_X12_tightestIf
      simp (disch := omega) only [xI_le, xI_lt, xI_eq, xI_0, xI_ib, if_pos, if_neg, if_true, if_false, xI_cl, Int.toNat_natCast, iI_m, iI_a, iI_s, iI_1, xI_n, Option.bind_some, Int.natCast_add, Int.natCast_one, xI_zb, if_bI0, if_bI1, xI_rn, xI_ti, ew, am_lt, m_goes1, R.2.2.2.1.1, e9]
    · rw [w9.1 _ _ (by simp), au_s, if_pos rfl]; exact agrv
  · rw [if_neg c]
    rw [show bI (plain st.2.2.2.1) = 0 from if_neg c] at ew
    refine ⟨iI 0, _, ?_, M0.code (x := iI 1), C0.tr CFr.code, by rw [au_s, if_pos rfl]; exact agr1⟩
    unfold f_X12_tightestIf
    simp (disch := omega) only [xI_le, xI_lt, xI_eq, xI_0, xI_ib, if_pos, if_neg, if_true, if_false, xI_cl, Int.toNat_natCast, iI_m, iI_a, iI_s, iI_1, xI_n, Option.bind_some, Int.natCast_add, Int.natCast_one, xI_zb, if_bI0, if_bI1, xI_rn, xI_ti, ew, am_lt, m_goes0]
end TIG
