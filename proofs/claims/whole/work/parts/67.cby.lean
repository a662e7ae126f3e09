/-! the reference's trials -/
section CBY
variable {h : am_H} {st : St}
theorem m_trial {h1 s : am_H} (ok : Ok st) (R : MoR h st) (e1 : f_X12_leaves h = some h1) (w : Wr [(.inl 0, 2)] h1 s) (x : Int32) : ∃ h3, f_X12_comesBack x s = some (x, h3) ∧ MoR h3 st ∧ CFr h h3 := by
  obtain ⟨h1', e1', c1, k1⟩ := m_leaves h
  rw [e1] at e1'
  cases e1'
  obtain ⟨h3, e3, c3⟩ := m_comesBack s x
  have w3 := wr_X12_comesBack e3
  have w1 := wr_X12_leaves e1
  have wa : Wr [(.inl 0, 2), (.inl 0, 5)] h h3 := (w1.mono (by simp)).tr ((w.tr w3).mono (by simp))
  refine ⟨h3, e3, MoR.trial ok wa (fun j hj => ?_) R, wa.CF rfl⟩
  rw [c3 j hj, w.1 _ _ (by simp), c1 j hj]
theorem m_leaves' (h : am_H) : ∃ h', f_X12_leaves h = some h' ∧ h'.1 (.inl 0) 2 = h.1 (.inl 0) 2 := by
  obtain ⟨h', e, -, k⟩ := m_leaves h
  exact ⟨h', e, k⟩
theorem m_crowdedBy (ok : Ok st) (R : MoR h st) {n : Nat} (hn : n ≤ 99) : ∃ h3, f_X12_crowdedBy (iI n) h = some (iI (crN (growA st.1 n)), h3) ∧ MoR h3 st ∧ CFr h h3 := by
  have hv := ok.1.1
  have h8 := hv.1
  have hg := growA_ok ok.1 (n := n) (by omega)
  obtain ⟨h1, e1, k1⟩ := m_leaves' h
  have R1 : mo_pl h1 st.1 := by show mo_rw (h1.1 (.inl 0) 2) st.1; rw [k1]; exact R.1.1
  obtain ⟨s, e2, p1, p2, p3⟩ := ch_rel (fun i s => f_X12_crowdedBy_6 (iI n) (iI i) s) (fun i s => (∀ a, a < i → s.1 (.inl 0) 2 (12 + 4 * a) = iI (st.1.2 1 a + n)) ∧ (∀ j, (∀ a, a < i → j ≠ 12 + 4 * a) → s.1 (.inl 0) 2 j = h1.1 (.inl 0) 2 j) ∧ Wr [(.inl 0, 2)] h1 s) (n := st.1.1 0) (fun i s hi hs => by
    obtain ⟨p1, p2, p3⟩ := hs
    have q := R1.2.1 i hi 0 (by omega)
    rw [Nat.add_zero] at q
    have q2 : h1.1 (.inl 0) 2 (12 + 4 * i) = iI (st.1.2 1 i) := q
    refine ⟨am_u s (.inl 0) 2 (12 + 4 * i) (iI (st.1.2 1 i + n)), ?_, fun a ha => ?_, fun j hj => ?_, p3.tr (Wr.u (by simp))⟩
    · show f_X12_crowdedBy_6 _ _ _ = f_X12_crowdedBy_6 _ _ _
      rw [e_X12_crowdedBy_6]
      simp (disch := omega) only [xI_le, xI_lt, xI_eq, xI_0, xI_ib, if_pos, if_neg, if_true, if_false, xI_cl, Int.toNat_natCast, iI_m, iI_a, iI_s, iI_1, xI_n, Option.bind_some, Int.natCast_add, Int.natCast_one, xI_zb, if_bI0, if_bI1, xI_rn, xI_ti, show (0 : Int).toNat = 0 from rfl, p2 0 (by omega), R1.1.1, show (12 + 4 * (i : Int) + 0).toNat = 12 + 4 * i from by omega, p2 (12 + 4 * i) (by omega), q2, am_lt]
    · rw [au_s]
      by_cases c : a = i
      · rw [if_pos (by omega), c]
      · rw [if_neg (by omega)]; exact p1 a (by omega)
    · rw [au_s, if_neg (hj i (by omega))]; exact p2 j (fun a ha => hj a (by omega))) (s0 := h1) ⟨fun a ha => absurd ha (Nat.not_lt_zero a), fun j _ => rfl, Wr.rf⟩
  have Rs : mo_pl s (growA st.1 n) := by
    obtain ⟨⟨r0, r1, r2, r3, r4, r5, r6, r7, r8⟩, ra, rl, rw', rk, rs⟩ := R1
    refine ⟨⟨(p2 0 (by omega)).trans r0, (p2 1 (by omega)).trans r1, (p2 2 (by omega)).trans r2, (p2 3 (by omega)).trans r3, (p2 4 (by omega)).trans r4, (p2 5 (by omega)).trans r5, (p2 6 (by omega)).trans r6, (p2 7 (by omega)).trans r7, (p2 8 (by omega)).trans r8⟩, fun i hi c hc => ?_, fun i hi c hc => ?_, fun i hi => ?_, fun i hi c hc => ?_, fun i hi c hc => ?_⟩
    · have hi' : i < st.1.1 0 := hi
      by_cases d : c = 0
      · subst d
        rw [Nat.add_zero, p1 i hi]; rfl
      · rw [p2 _ (by omega), ra i hi c hc]
        show iI (st.1.2 (1 + c) i) = iI (if 1 + c = 1 then _ else st.1.2 (1 + c) i)
        rw [if_neg (by omega)]
    · have hi' : i < st.1.1 1 := hi
      rw [p2 _ (by omega), rl i hi c hc]
      show iI (st.1.2 (5 + c) i) = iI (if 5 + c = 1 then _ else st.1.2 (5 + c) i)
      rw [if_neg (by omega)]
    · rw [p2 _ (by omega), rw' i hi]; rfl
    · rw [p2 _ (by omega), rk i hi c hc]
      show iI (st.1.2 (9 + c) i) = iI (if 9 + c = 1 then _ else st.1.2 (9 + c) i)
      rw [if_neg (by omega)]
    · rw [p2 _ (by omega), rs i hi c hc]
      show iI (st.1.2 (12 + c) i) = iI (if 12 + c = 1 then _ else st.1.2 (12 + c) i)
      rw [if_neg (by omega)]
  obtain ⟨h3, e3, M3, C3⟩ := m_trial ok R e1 p3 (iI (crN (growA st.1 n)))
  refine ⟨h3, ?_, M3, C3⟩
  unfold f_X12_crowdedBy
  rw [e1, Option.bind_some]
  refine Eq.trans e2 ?_
  show f_X12_crowdedBy_6 _ _ _ = _
  have em : f_X12_crowdedMany s = some (iI (crN (growA st.1 n))) := m_crowdedMany hg Rs
  have r0 : s.1 (.inl 0) 2 0 = iI (st.1.1 0) := Rs.1.1
  rw [e_X12_crowdedBy_6]
  simp (disch := omega) only [xI_le, xI_lt, xI_eq, xI_0, xI_ib, if_pos, if_neg, if_true, if_false, xI_cl, Int.toNat_natCast, iI_m, iI_a, iI_s, iI_1, xI_n, Option.bind_some, Int.natCast_add, Int.natCast_one, xI_zb, if_bI0, if_bI1, xI_rn, xI_ti, show (0 : Int).toNat = 0 from rfl, r0, em, e3]
theorem m_crowdedWith (ok : Ok st) (R : MoR h st) {p : Nat} {w : Int} (hp : p < 26) (hw : 1 ≤ w ∧ w ≤ 99) : ∃ h3, f_X12_crowdedWith (iI p) (iI w) h = some (iI (crN (pu st.1 8 p w)), h3) ∧ MoR h3 st ∧ CFr h h3 := by
  have hv := ok.1.1
  have h8 := hv.1
  have hg : pv_ok (pu st.1 8 p w) := by
    obtain ⟨h1, h2, h3, h4, h5, h6, h7⟩ := hv
    refine ⟨h1, h2, h3, fun i hi => ?_, h5, h6, h7⟩
    show 1 ≤ (if i = p then w else st.1.2 8 i) ∧ (if i = p then w else st.1.2 8 i) ≤ 99
    split
    · exact hw
    · exact h4 i hi
  obtain ⟨h1, e1, k1⟩ := m_leaves' h
  have R1 : mo_pl h1 st.1 := by show mo_rw (h1.1 (.inl 0) 2) st.1; rw [k1]; exact R.1.1
  have Rs : mo_pl (am_u h1 (.inl 0) 2 (104 + p) (iI w)) (pu st.1 8 p w) := by
    obtain ⟨⟨r0, r1, r2, r3, r4, r5, r6, r7, r8⟩, ra, rl, rw', rk, rs⟩ := R1
    have e : ∀ i, i ≠ 104 + p → (am_u h1 (.inl 0) 2 (104 + p) (iI w)).1 (.inl 0) 2 i = h1.1 (.inl 0) 2 i := fun i hi => by rw [au_s, if_neg hi]
    refine ⟨⟨(e 0 (by omega)).trans r0, (e 1 (by omega)).trans r1, (e 2 (by omega)).trans r2, (e 3 (by omega)).trans r3, (e 4 (by omega)).trans r4, (e 5 (by omega)).trans r5, (e 6 (by omega)).trans r6, (e 7 (by omega)).trans r7, (e 8 (by omega)).trans r8⟩, fun i hi c hc => ?_, fun i hi c hc => ?_, fun i hi => ?_, fun i hi c hc => ?_, fun i hi c hc => ?_⟩
    · have hi' : i < st.1.1 0 := hi
      rw [pu_o (by omega), e _ (by omega)]; exact ra i hi c hc
    · have hi' : i < st.1.1 1 := hi
      rw [pu_o (by omega), e _ (by omega)]; exact rl i hi c hc
    · by_cases d : i = p
      · subst d
        rw [au_s, if_pos rfl, pu_s]
      · rw [e _ (by omega), pu_i d]; exact rw' i hi
    · rw [pu_o (by omega), e _ (by omega)]; exact rk i hi c hc
    · rw [pu_o (by omega), e _ (by omega)]; exact rs i hi c hc
  obtain ⟨h3, e3, M3, C3⟩ := m_trial ok R e1 (s := am_u h1 (.inl 0) 2 (104 + p) (iI w)) (Wr.u (by simp)) (iI (crN (pu st.1 8 p w)))
  refine ⟨h3, ?_, M3, C3⟩
  have em : f_X12_crowdedMany (am_u h1 (.inl 0) 2 (104 + p) (iI w)) = some (iI (crN (pu st.1 8 p w))) := m_crowdedMany hg Rs
  unfold f_X12_crowdedWith
  simp (disch := omega) only [xI_le, xI_lt, xI_eq, xI_0, xI_ib, if_pos, if_neg, if_true, if_false, xI_cl, Int.toNat_natCast, iI_m, iI_a, iI_s, iI_1, xI_n, Option.bind_some, Int.natCast_add, Int.natCast_one, xI_zb, if_bI0, if_bI1, xI_rn, xI_ti, e1, show (104 + (p : Int)).toNat = 104 + p from by omega, am_lt, em, e3]
theorem mo_leastGrowth (ok : Ok st) (R : MoR h st) : ∃ h3, f_X12_leastGrowth h = some (iI (oLg st.1), h3) ∧ MoR h3 st ∧ CFr h h3 := by
  have hm := pv_fst_le (fun i => decide (crN (growA st.1 i) = 0)) 100 0
  have hat := pv_fst_at (fun i => decide (crN (growA st.1 i) = 0)) 100 0
  have hlt := pv_fst_lt (fun i => decide (crN (growA st.1 i) = 0)) 100 0
  have h20 := ok.1.1.1.2.1
  simp only [decide_eq_true_eq, decide_eq_false_iff_not] at hat hlt
  unfold oLg lgP
  generalize pv_fst (fun i => decide (crN (growA st.1 i) = 0)) 100 0 = m at hm hat hlt ⊢
  obtain ⟨s, e1, C1, M1⟩ := ch_rel (fun i s => f_X12_leastGrowth_7 (iI i) s) (fun _ s => MoR s st ∧ CFr h s) (n := m) (fun i s hi hs => by
    obtain ⟨h1, e1, c1, m1⟩ := m_crowdedBy ok hs.1 (n := i) (by omega)
    have h9 := hlt i (by omega) hi
    have h7 := crN_le (growA st.1 i)
    have h6 : (growA st.1 i).1 1 = st.1.1 1 := rfl
    refine ⟨h1, ?_, c1, hs.2.tr m1⟩
    show f_X12_leastGrowth_7 _ _ = f_X12_leastGrowth_7 _ _
    rw [e_X12_leastGrowth_7]
    simp (disch := omega) only [xI_le, xI_lt, xI_eq, xI_0, xI_ib, if_pos, if_neg, if_true, if_false, xI_cl, Int.toNat_natCast, iI_m, iI_a, iI_s, iI_1, xI_n, Option.bind_some, Int.natCast_add, Int.natCast_one, xI_zb, if_bI0, if_bI1, xI_rn, xI_ti, e1]) (s0 := am_u h (.inl 0) 0 0 (iI 0)) ⟨R.code, CFr.code⟩
  have e0 : f_X12_leastGrowth h = f_X12_leastGrowth_7 (iI m) s := e1
  by_cases c : m < 100
  · obtain ⟨h1, e2, c1, m1⟩ := m_crowdedBy ok C1 (n := m) (by omega)
    refine ⟨h1, ?_, c1, M1.tr m1⟩
    rw [e0, e_X12_leastGrowth_7, if_pos c]
    have h9 := hat (by omega)
    simp (disch := omega) only [xI_le, xI_lt, xI_eq, xI_0, xI_ib, if_pos, if_neg, if_true, if_false, xI_cl, Int.toNat_natCast, iI_m, iI_a, iI_s, iI_1, xI_n, Option.bind_some, Int.natCast_add, Int.natCast_one, xI_zb, if_bI0, if_bI1, xI_rn, xI_ti, e2, h9]
  · refine ⟨s, ?_, C1, M1⟩
    rw [e0, e_X12_leastGrowth_7, if_neg c]
    simp (disch := omega) only [xI_le, xI_lt, xI_eq, xI_0, xI_ib, if_pos, if_neg, if_true, if_false, xI_cl, Int.toNat_natCast, iI_m, iI_a, iI_s, iI_1, xI_n, Option.bind_some, Int.natCast_add, Int.natCast_one, xI_zb, if_bI0, if_bI1, xI_rn, xI_ti]
theorem t_26 {L : Nat} {xs : Nat → Int32} {x4 : Int32} (ok : Ok st) (C : ClR h st) (M : MoR h st) : ∃ h', law_26 L xs x4 h = some h' ∧ ClR h' st ∧ MoR h' st := tyB_ok M (cl_leastGrowth ok C) (fun _ M2 => mo_leastGrowth ok M2)
/-! mostWidth -/
def mwP (v : pv_T) (p : Nat) : Nat := pv_fst (fun i => decide (crN (pu v 8 p (99 - (i : Int))) = 0)) 99 0
def oMw (st : St) (p : Int) : Int32 ⊕ Nat := if 0 ≤ p ∧ p ≤ 25 then .inl (iI (if mwP st.1 p.toNat < 99 then 99 - (mwP st.1 p.toNat : Int) else -1)) else .inr 1
theorem m_isPlace {p : Int} (hp : -2147483648 ≤ p ∧ p < 2147483648) : f_X12_isPlace (iI p) = some (iI (bI (0 ≤ p ∧ p ≤ 25))) := by
  unfold f_X12_isPlace
  simp (disch := omega) only [xI_le, xI_lt, xI_eq, xI_0, xI_ib, if_pos, if_neg, if_true, if_false, xI_cl, Int.toNat_natCast, iI_m, iI_a, iI_s, iI_1, xI_n, Option.bind_some, Int.natCast_add, Int.natCast_one, xI_zb, if_bI0, if_bI1, xI_rn, xI_ti, m_isInz (n := p) (b := 25) (z := (25 : Int64)) rfl hp]
theorem k_isPlace {p : Int} (hp : -2147483648 ≤ p ∧ p < 2147483648) : f_X11_isPlace (iI p) = some (iI (bI (0 ≤ p ∧ p ≤ 25))) := by
  unfold f_X11_isPlace
  simp (disch := omega) only [xI_le, xI_lt, xI_eq, xI_0, xI_ib, if_pos, if_neg, if_true, if_false, xI_cl, Int.toNat_natCast, iI_m, iI_a, iI_s, iI_1, xI_n, Option.bind_some, Int.natCast_add, Int.natCast_one, xI_zb, if_bI0, if_bI1, xI_rn, xI_ti, k_isWithin (n := p) (a := 0) (b := 25) hp (by omega) (by omega)]
theorem mo_mostWidth (ok : Ok st) (R : MoR h st) {p : Int} (hp : -2147483648 ≤ p ∧ p < 2147483648) : moC (f_X12_mostWidth (iI p)) h st (oMw st p) ex1 := by
  have h20 := ok.1.1.1.2.1
  unfold oMw
  by_cases c : 0 ≤ p ∧ p ≤ 25
  · obtain ⟨n, rfl⟩ : ∃ n : Nat, p = n := ⟨p.toNat, by omega⟩
    rw [if_pos c, Int.toNat_natCast]
    have hm := pv_fst_le (fun i => decide (crN (pu st.1 8 n (99 - (i : Int))) = 0)) 99 0
    have hat := pv_fst_at (fun i => decide (crN (pu st.1 8 n (99 - (i : Int))) = 0)) 99 0
    have hlt := pv_fst_lt (fun i => decide (crN (pu st.1 8 n (99 - (i : Int))) = 0)) 99 0
    simp only [decide_eq_true_eq, decide_eq_false_iff_not] at hat hlt
    unfold mwP
    generalize pv_fst (fun i => decide (crN (pu st.1 8 n (99 - (i : Int))) = 0)) 99 0 = m at hm hat hlt ⊢
    have k0 : ∀ {a b : am_H}, Wr [(.inl 0, 2), (.inl 0, 5)] a b → b.1 (.inl 0) 0 0 = a.1 (.inl 0) 0 0 := fun w => by rw [w.1 _ _ (by simp)]
    obtain ⟨s, e1, C1, M1, Z1⟩ := ch_rel (fun i s => f_X12_mostWidth_16 (iI n) (iI (99 - (i : Int))) s) (fun _ s => MoR s st ∧ CFr h s ∧ s.1 (.inl 0) 0 0 = iI 0) (n := m) (fun i s hi hs => by
      obtain ⟨h1, e1, c1, m1⟩ := m_crowdedWith ok hs.1 (p := n) (w := 99 - (i : Int)) (by omega) (by omega)
      have h9 := hlt i (by omega) hi
      have h7 := crN_le (pu st.1 8 n (99 - (i : Int)))
      have h6 : (pu st.1 8 n (99 - (i : Int))).1 1 = st.1.1 1 := rfl
      have w1 := wr_X12_crowdedWith e1
      refine ⟨h1, ?_, c1, hs.2.1.tr m1, by rw [k0 (w1.mono (by simp))]; exact hs.2.2⟩
      show f_X12_mostWidth_16 _ _ _ = f_X12_mostWidth_16 _ _ _
      rw [e_X12_mostWidth_16]
      simp (disch := omega) only [xI_le, xI_lt, xI_eq, xI_0, xI_ib, if_pos, if_neg, if_true, if_false, xI_cl, Int.toNat_natCast, iI_m, iI_a, iI_s, iI_1, xI_n, Option.bind_some, Int.natCast_add, Int.natCast_one, xI_zb, if_bI0, if_bI1, xI_rn, xI_ti, e1, show 99 - (i : Int) + -1 = 99 - ((i : Int) + 1) from by omega]) (s0 := am_u h (.inl 0) 0 0 (iI 0)) ⟨R.code, CFr.code, by rw [au_s, if_pos rfl]⟩
    have e0 : f_X12_mostWidth (iI n) h = f_X12_mostWidth_16 (iI n) (iI (99 - (m : Int))) s := by
      unfold f_X12_mostWidth
      simp (disch := omega) only [xI_le, xI_lt, xI_eq, xI_0, xI_ib, if_pos, if_neg, if_true, if_false, xI_cl, Int.toNat_natCast, iI_m, iI_a, iI_s, iI_1, xI_n, Option.bind_some, Int.natCast_add, Int.natCast_one, xI_zb, if_bI0, if_bI1, xI_rn, xI_ti, m_isPlace hp, m_goes1]
      exact e1
    by_cases d : m < 99
    · obtain ⟨h1, e2, c1, m1⟩ := m_crowdedWith ok C1 (p := n) (w := 99 - (m : Int)) (by omega) (by omega)
      have w1 := wr_X12_crowdedWith e2
      refine ⟨iI (if m < 99 then 99 - (m : Int) else -1), h1, ?_, c1, M1.tr m1, ?_⟩
      · rw [e0, e_X12_mostWidth_16, if_pos d]
        have h9 := hat (by omega)
        simp (disch := omega) only [xI_le, xI_lt, xI_eq, xI_0, xI_ib, if_pos, if_neg, if_true, if_false, xI_cl, Int.toNat_natCast, iI_m, iI_a, iI_s, iI_1, xI_n, Option.bind_some, Int.natCast_add, Int.natCast_one, xI_zb, if_bI0, if_bI1, xI_rn, xI_ti, e2, h9]
      · rw [k0 (w1.mono (by simp)), Z1]; exact agrv
    · refine ⟨iI (if m < 99 then 99 - (m : Int) else -1), s, ?_, C1, M1, ?_⟩
      · rw [e0, e_X12_mostWidth_16, if_neg d]
        simp (disch := omega) only [xI_le, xI_lt, xI_eq, xI_0, xI_ib, if_pos, if_neg, if_true, if_false, xI_cl, Int.toNat_natCast, iI_m, iI_a, iI_s, iI_1, xI_n, Option.bind_some, Int.natCast_add, Int.natCast_one, xI_zb, if_bI0, if_bI1, xI_rn, xI_ti]
      · rw [Z1]; exact agrv
  · rw [if_neg c]
    refine moC_c (b := iI 0) (c := iI 1) ?_ R agr1
    unfold f_X12_mostWidth
    simp (disch := omega) only [xI_le, xI_lt, xI_eq, xI_0, xI_ib, if_pos, if_neg, if_true, if_false, xI_cl, Int.toNat_natCast, iI_m, iI_a, iI_s, iI_1, xI_n, Option.bind_some, Int.natCast_add, Int.natCast_one, xI_zb, if_bI0, if_bI1, xI_rn, xI_ti, m_isPlace hp, m_goes0]
end CBY
