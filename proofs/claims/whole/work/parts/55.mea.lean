/-! means -/
section MEA
variable {h : am_H} {st : St} {L : Nat} {xs : Nat → Int32} {x4 : Int32}
theorem t_21 (ok : Ok st) (C : ClR h st) (M : MoR h st) : ∃ h', law_21 L xs x4 h = some h' ∧ ClR h' st ∧ MoR h' st := by
  have hv := ok.1.1
  have h8 := hv.1
  have hne := fp_ddiv (iI (sI (pv_rm st.1) (st.1.1 1 + 1))) (iI ((st.1.1 1 : Int) + 1)) (by rw [iI_toInt (by omega) (by omega)]; omega)
  have hn := fp_n64 hne
  obtain ⟨hm, em, Rl⟩ := k_measure hv C.1.1 C.1.2.1
  have wm := wr_X3_measure em
  have e1 : f_X11_meanRoom h = some (FP.ddiv (FP.i2d (iI (sI (pv_rm st.1) (st.1.1 1 + 1)))) (FP.i2d (iI ((st.1.1 1 : Int) + 1))), hm) := by
    unfold f_X11_meanRoom
    rw [em, Option.bind_some, k_meanParts hv Rl hn, Option.bind_some]
  have Mm := (wm.MF rfl).mo M
  have Rc : mo_pl (am_u hm (.inl 0) 0 0 (iI 0)) st.1 := mo_code Mm.1.1
  have s := ch_to (fun i : Nat => f_X12_meanRoom_9 (iI (sI (pv_rm st.1) i)) (iI i) (am_u hm (.inl 0) 0 0 (iI 0))) (Nat.zero_le (st.1.1 1 + 1)) (fun i _ hi => by
    show f_X12_meanRoom_9 _ _ _ = f_X12_meanRoom_9 _ _ _
    rw [e_X12_meanRoom_9]
    simp (disch := omega) only [xI_le, xI_lt, xI_eq, xI_0, xI_ib, if_pos, if_neg, if_true, if_false, xI_cl, Int.toNat_natCast, iI_m, iI_a, iI_s, iI_1, xI_n, Option.bind_some, Int.natCast_add, Int.natCast_one, xI_zb, if_bI0, if_bI1, xI_rn, xI_ti, Int.toNat_one, Rc.1.2.1, m_roomOf hv Rc (i := i) (by omega)]
    rfl)
  have e2 : f_X12_meanRoom hm = some (FP.ddiv (FP.i2d (iI (sI (pv_rm st.1) (st.1.1 1 + 1)))) (FP.i2d (iI ((st.1.1 1 : Int) + 1))), am_u hm (.inl 0) 0 0 (iI 0)) := by
    refine Eq.trans s ?_
    show f_X12_meanRoom_9 _ _ _ = _
    rw [e_X12_meanRoom_9]
    simp (disch := omega) only [xI_le, xI_lt, xI_eq, xI_0, xI_ib, if_pos, if_neg, if_true, if_false, xI_cl, Int.toNat_natCast, iI_m, iI_a, iI_s, iI_1, xI_n, Option.bind_some, Int.natCast_add, Int.natCast_one, xI_zb, if_bI0, if_bI1, xI_rn, xI_ti, Int.toNat_one, Rc.1.2.1]
  refine ⟨am_u hm (.inl 0) 0 0 (iI 0), ?_, CFr.code.cl (ClR.wr wm rfl C), Mm.code⟩
  unfold law_21
  rw [e1, Option.bind_some, e2, Option.bind_some]
  exact if_pos (fp_cmp hne)
theorem pv_wP_0 {v : pv_T} (hv : pv_ok v) : pv_wP v ≤ 0 ↔ v.1 0 = 0 := by
  constructor
  · intro h
    refine Nat.eq_zero_of_not_pos (fun hp => ?_)
    have h1 := pv_pA_mono hv (i := 1) (j := v.1 0) hp (Nat.le_refl _)
    have h2 := hv.2.1 0 hp
    have h3 : pv_pA v 1 = v.2 1 0 * (10 * v.2 2 0) := by show 0 + v.2 1 0 * (10 * v.2 2 0) = _; omega
    have h4 : 1 * (10 * v.2 2 0) ≤ v.2 1 0 * (10 * v.2 2 0) := Int.mul_le_mul_of_nonneg_right (by omega) (by omega)
    have h5 : pv_pA v (v.1 0) = pv_wP v := rfl
    omega
  · intro h
    show pv_pA v (v.1 0) ≤ 0
    rw [h]
    exact Int.le_refl _
theorem pv_pA_b99 {v : pv_T} (hv : pvA v) {n : Nat} (h : n ≤ v.1 0) : 0 ≤ pv_pA v n ∧ pv_pA v n ≤ 2865600 := pv_pA_b hv.1 h
theorem t_22 (ok : Ok st) (C : ClR h st) (M : MoR h st) : ∃ h', law_22 L xs x4 h = some h' ∧ ClR h' st ∧ MoR h' st := by
  have hv := ok.1.1
  have h8 := hv.1
  have hw := pv_wP_b hv
  have hs := sI_b (f := fun j => 1000 * pv_w st.1 j) (n := st.1.1 1) (lo := 0) (hi := 99000) (fun i hi => by have := pv_w_b hv hi; omega)
  have Rc : mo_pl (am_u h (.inl 0) 0 0 (iI 0)) st.1 := mo_code M.1.1
  have s := ch_to (fun i : Nat => f_X12_filled_9 (iI (sI (fun j => 1000 * pv_w st.1 j) i)) (iI i) (am_u h (.inl 0) 0 0 (iI 0))) (Nat.zero_le (st.1.1 1)) (fun i _ hi => by
    show f_X12_filled_9 _ _ _ = f_X12_filled_9 _ _ _
    rw [e_X12_filled_9]
    simp (disch := omega) only [xI_le, xI_lt, xI_eq, xI_0, xI_ib, if_pos, if_neg, if_true, if_false, xI_cl, Int.toNat_natCast, iI_m, iI_a, iI_s, iI_1, xI_n, Option.bind_some, Int.natCast_add, Int.natCast_one, xI_zb, if_bI0, if_bI1, xI_rn, xI_ti, Int.toNat_one, Rc.1.2.1, m_widthOf hv Rc hi]
    rfl)
  have key : ∃ d, f_X11_filled h = some d ∧ f_X12_filled h = some (d, am_u h (.inl 0) 0 0 (iI 0)) ∧ FP.Core.val32 d ≠ .nan := by
    by_cases c : st.1.1 0 = 0
    · refine ⟨FP.fconst0, ?_, ?_, fp_0⟩
      · have := (pv_wP_0 hv).mpr c
        unfold f_X11_filled
        simp (disch := omega) only [xI_le, xI_lt, xI_eq, xI_0, xI_ib, if_pos, if_neg, if_true, if_false, xI_cl, Int.toNat_natCast, iI_m, iI_a, iI_s, iI_1, xI_n, Option.bind_some, Int.natCast_add, Int.natCast_one, xI_zb, if_bI0, if_bI1, xI_rn, xI_ti, k_wholeParts hv C.1.1]
      · refine Eq.trans s ?_
        show f_X12_filled_9 _ _ _ = _
        rw [e_X12_filled_9]
        simp (disch := omega) only [xI_le, xI_lt, xI_eq, xI_0, xI_ib, if_pos, if_neg, if_true, if_false, xI_cl, Int.toNat_natCast, iI_m, iI_a, iI_s, iI_1, xI_n, Option.bind_some, Int.natCast_add, Int.natCast_one, xI_zb, if_bI0, if_bI1, xI_rn, xI_ti, Int.toNat_one, Int.toNat_zero, Rc.1.2.1, Rc.1.1]
    · have hp : 0 < pv_wP st.1 := by
        refine Int.not_le.mp (fun z => c ((pv_wP_0 hv).mp z))
      have hd := fp_fdiv (iI (sI (fun j => 1000 * pv_w st.1 j) (st.1.1 1))) (iI (pv_wP st.1)) (by rw [iI_toInt (by omega) (by omega)]; omega) (by rw [iI_toInt (by omega) (by omega)]; omega) (by rw [iI_toInt (by omega) (by omega)]; omega)
      refine ⟨_, ?_, ?_, hd⟩
      · unfold f_X11_filled
        simp (disch := omega) only [xI_le, xI_lt, xI_eq, xI_0, xI_ib, if_pos, if_neg, if_true, if_false, xI_cl, Int.toNat_natCast, iI_m, iI_a, iI_s, iI_1, xI_n, Option.bind_some, Int.natCast_add, Int.natCast_one, xI_zb, if_bI0, if_bI1, xI_rn, xI_ti, k_wholeParts hv C.1.1, k_partsOfAll hv C.1.2.1, if_pos (fp_n32 hd)]
      · refine Eq.trans s ?_
        show f_X12_filled_9 _ _ _ = _
        rw [e_X12_filled_9]
        simp (disch := omega) only [xI_le, xI_lt, xI_eq, xI_0, xI_ib, if_pos, if_neg, if_true, if_false, xI_cl, Int.toNat_natCast, iI_m, iI_a, iI_s, iI_1, xI_n, Option.bind_some, Int.natCast_add, Int.natCast_one, xI_zb, if_bI0, if_bI1, xI_rn, xI_ti, Int.toNat_one, Int.toNat_zero, Rc.1.2.1, Rc.1.1, m_wholeParts hv Rc, if_pos (fp_n32 hd)]
  obtain ⟨d, e1, e2, hd⟩ := key
  have hn := fp_n64 (fp_f2d hd)
  refine ⟨am_u h (.inl 0) 0 0 (iI 0), ?_, CFr.code.cl C, M.code⟩
  unfold law_22
  rw [e1, Option.bind_some, if_pos hn, e2, Option.bind_some]
  show (if nf64 (FP.f2d d) then _ else _) = _
  rw [if_pos hn]
  exact if_pos (fp_cmp (fp_f2d hd))
end MEA
