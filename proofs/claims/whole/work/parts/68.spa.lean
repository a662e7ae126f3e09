/-! mostWidth, spare -/
section SPA
variable {h : am_H} {st : St}
theorem cl_mostWidth (ok : Ok st) (R : ClR h st) {p : Int} (hp : -2147483648 ≤ p ∧ p < 2147483648) : clC (f_X11_mostWidth (iI p)) h st (oMw st p) := by
  have hv := ok.1.1
  have h20 := hv.1.2.1
  unfold oMw
  by_cases c : 0 ≤ p ∧ p ≤ 25
  · obtain ⟨n, rfl⟩ : ∃ n : Nat, p = n := ⟨p.toNat, by omega⟩
    rw [if_pos c, Int.toNat_natCast]
    have hm := pv_fst_le (fun i => decide (crN (pu st.1 8 n (99 - (i : Int))) = 0)) 99 0
    have hat := pv_fst_at (fun i => decide (crN (pu st.1 8 n (99 - (i : Int))) = 0)) 99 0
    have hlt := pv_fst_lt (fun i => decide (crN (pu st.1 8 n (99 - (i : Int))) = 0)) 99 0
    simp only [decide_eq_true_eq, decide_eq_false_iff_not] at hat hlt
    unfold mwP
    generalize pv_fst (fun i => decide (crN (pu st.1 8 n (99 - (i : Int))) = 0)) 99 0 = m at hm hat hlt ⊢
    obtain ⟨h0, e0, R0⟩ := k_copyPl (k := 2) (k2 := 0) (by omega) hv R.1
    have w0 := wr_X5_copyFrom e0
    have hg : ∀ w : Int, 1 ≤ w ∧ w ≤ 99 → pv_ok (pu st.1 8 n w) := fun w hw => by
      obtain ⟨h1, h2, h3, h4, h5, h6, h7⟩ := hv
      refine ⟨h1, h2, h3, fun i hi => ?_, h5, h6, h7⟩
      show 1 ≤ (if i = n then w else st.1.2 8 i) ∧ (if i = n then w else st.1.2 8 i) ≤ 99
      split
      · exact hw
      · exact h4 i hi
    have key : ∀ {s : am_H} {w : Int}, 1 ≤ w ∧ w ≤ 99 → (cl_cu s 2 st.1 ∧ (s.1 (.inr 2) 6 4 = iI (st.1.1 1) ∧ (∀ i, i < st.1.1 1 → s.1 (.inr 2) 7 i = iI (st.1.2 5 i) ∧ s.1 (.inr 2) 8 i = iI (st.1.2 6 i) ∧ s.1 (.inr 2) 9 i = iI (st.1.2 7 i)) ∧ ∀ i, i < 26 → i ≠ n → s.1 (.inr 2) 10 i = iI (st.1.2 8 i)) ∧ s.1 (.inr 2) 0 5 = iI (st.1.2 0 1)) → ∃ h1, f_X11_crowdedOfTrial (am_u s (.inr 2) 10 n (iI w)) = some (pv_crS (pu st.1 8 n w) (st.1.1 1 + 1), h1) ∧ Wr [(.inl 1, 4), (.inl 1, 3)] (am_u s (.inr 2) 10 n (iI w)) h1 := fun {s w} hw p => by
      have e : ∀ o, o ≠ 10 → (am_u s (.inr 2) 10 n (iI w)).1 (.inr 2) o = s.1 (.inr 2) o := fun o ho => am_u_row (by simp; exact ho)
      have Rc : cl_cu (am_u s (.inr 2) 10 n (iI w)) 2 (pu st.1 8 n w) := by
        have q := p.1
        unfold cl_cu at q ⊢
        rw [e 1 (by omega), e 2 (by omega), e 3 (by omega), e 4 (by omega), e 5 (by omega)]
        exact q
      have Rn : cl_na (am_u s (.inr 2) 10 n (iI w)) 2 (pu st.1 8 n w) := by
        unfold cl_na
        rw [e 6 (by omega), e 7 (by omega), e 8 (by omega), e 9 (by omega)]
        refine ⟨p.2.1.1, p.2.1.2.1, fun i hi => ?_⟩
        rw [au_s]
        show _ = iI (if i = n then w else st.1.2 8 i)
        by_cases d : i = n
        · rw [if_pos d, if_pos d]
        · rw [if_neg d, if_neg d]; exact p.2.1.2.2 i hi d
      obtain ⟨h1, e1⟩ := k_crTrial (hg w hw) Rc Rn (by rw [e 0 (by omega)]; exact p.2.2)
      exact ⟨h1, e1, wr_X11_crowdedOfTrial e1⟩
    obtain ⟨s, e1, P1, C1, M1⟩ := ch_rel (fun i s => f_X11_mostWidth_32 (iI n) (iI (99 - (i : Int))) s) (fun i s => (cl_cu s 2 st.1 ∧ (s.1 (.inr 2) 6 4 = iI (st.1.1 1) ∧ (∀ i, i < st.1.1 1 → s.1 (.inr 2) 7 i = iI (st.1.2 5 i) ∧ s.1 (.inr 2) 8 i = iI (st.1.2 6 i) ∧ s.1 (.inr 2) 9 i = iI (st.1.2 7 i)) ∧ ∀ i, i < 26 → i ≠ n → s.1 (.inr 2) 10 i = iI (st.1.2 8 i)) ∧ s.1 (.inr 2) 0 5 = iI (st.1.2 0 1)) ∧ ClR s st ∧ MFr h s) (n := m) (fun i s hi hs => by
      obtain ⟨P, C, M⟩ := hs
      obtain ⟨h1, e1, w1⟩ := key (w := 99 - (i : Int)) (by omega) P
      have h9 := hlt i (by omega) hi
      have hz := crS_0 (v := pu st.1 8 n (99 - (i : Int))) h20
      have wu : Wr [(.inr 2, 10)] s (am_u s (.inr 2) 10 n (iI (99 - (i : Int)))) := Wr.u (by simp)
      have P1 : ∀ o, o ≠ 10 → h1.1 (.inr 2) o = s.1 (.inr 2) o := fun o ho => by rw [w1.1 _ _ (by simp), am_u_row (by simp; exact ho)]
      refine ⟨h1, ?_, ⟨?_, ⟨?_, ?_, fun a ha hn => ?_⟩, ?_⟩, ClR.wr w1 rfl (ClR.wr wu rfl C), M.tr ((wu.MF rfl).tr (w1.MF rfl))⟩
      · show f_X11_mostWidth_32 _ _ _ = f_X11_mostWidth_32 _ _ _
        rw [e_X11_mostWidth_32]
        simp (disch := omega) only [xI_le, xI_lt, xI_eq, xI_0, xI_ib, if_pos, if_neg, if_true, if_false, xI_cl, Int.toNat_natCast, iI_m, iI_a, iI_s, iI_1, xI_n, Option.bind_some, Int.natCast_add, Int.natCast_one, xI_zb, if_bI0, if_bI1, xI_rn, xI_ti, am_lt, e1, show 99 - (i : Int) + -1 = 99 - ((i : Int) + 1) from by omega]
        exact if_neg (fun z => h9 (Eq.mp hz z))
      · have q := P.1
        unfold cl_cu at q ⊢
        rw [P1 1 (by omega), P1 2 (by omega), P1 3 (by omega), P1 4 (by omega), P1 5 (by omega)]
        exact q
      · rw [P1 6 (by omega)]; exact P.2.1.1
      · rw [P1 7 (by omega), P1 8 (by omega), P1 9 (by omega)]; exact P.2.1.2.1
      · rw [w1.1 _ _ (by simp), au_s, if_neg hn]; exact P.2.1.2.2 a ha hn
      · rw [P1 0 (by omega)]; exact P.2.2) (s0 := h0) ⟨⟨R0.1, ⟨R0.2.1.1, R0.2.1.2.1, fun a ha _ => R0.2.1.2.2 a ha⟩, R0.2.2.2.2.2⟩, ClR.wr w0 rfl R, w0.MF rfl⟩
    have e9 : f_X11_mostWidth (iI n) h = f_X11_mostWidth_32 (iI n) (iI (99 - (m : Int))) s := by
      unfold f_X11_mostWidth
      simp (disch := omega) only [xI_le, xI_lt, xI_eq, xI_0, xI_ib, if_pos, if_neg, if_true, if_false, xI_cl, Int.toNat_natCast, iI_m, iI_a, iI_s, iI_1, xI_n, Option.bind_some, Int.natCast_add, Int.natCast_one, xI_zb, if_bI0, if_bI1, xI_rn, xI_ti, k_isPlace hp, e0]
      exact e1
    by_cases d : m < 99
    · obtain ⟨h1, e2, w1⟩ := key (w := 99 - (m : Int)) (by omega) P1
      have wu : Wr [(.inr 2, 10)] s (am_u s (.inr 2) 10 n (iI (99 - (m : Int)))) := Wr.u (by simp)
      have h9 := hat (by omega)
      have hz := crS_0 (v := pu st.1 8 n (99 - (m : Int))) h20
      refine ⟨h1, ?_, ClR.wr w1 rfl (ClR.wr wu rfl C1), M1.tr ((wu.MF rfl).tr (w1.MF rfl))⟩
      rw [e9, e_X11_mostWidth_32, if_pos d]
      simp (disch := omega) only [xI_le, xI_lt, xI_eq, xI_0, xI_ib, if_pos, if_neg, if_true, if_false, xI_cl, Int.toNat_natCast, iI_m, iI_a, iI_s, iI_1, xI_n, Option.bind_some, Int.natCast_add, Int.natCast_one, xI_zb, if_bI0, if_bI1, xI_rn, xI_ti, am_lt, e2]
      exact if_pos (Eq.mpr hz h9)
    · refine ⟨s, ?_, C1, M1⟩
      rw [e9, e_X11_mostWidth_32, if_neg d]
      simp (disch := omega) only [xI_le, xI_lt, xI_eq, xI_0, xI_ib, if_pos, if_neg, if_true, if_false, xI_cl, Int.toNat_natCast, iI_m, iI_a, iI_s, iI_1, xI_n, Option.bind_some, Int.natCast_add, Int.natCast_one, xI_zb, if_bI0, if_bI1, xI_rn, xI_ti]
  · rw [if_neg c]
    refine clC_w (h1 := h) ?_ (Wr.rf (L := [])) rfl rfl R
    unfold f_X11_mostWidth
    simp (disch := omega) only [xI_le, xI_lt, xI_eq, xI_0, xI_ib, if_pos, if_neg, if_true, if_false, xI_cl, Int.toNat_natCast, iI_m, iI_a, iI_s, iI_1, xI_n, Option.bind_some, Int.natCast_add, Int.natCast_one, xI_zb, if_bI0, if_bI1, xI_rn, xI_ti, k_isPlace hp]
end SPA
