/-! one command of a script, on both sides -/
def canB (v : pv_T) (q n : Int) : Bool := if q = 0 then decide ((0 ≤ n ∧ n ≤ (v.1 1 : Int) - 1) ∧ v.2 6 n.toNat = 0 ∧ 0 < v.1 0 ∧ v.1 3 ≤ 40) else if q = 1 then cAll v else if q = 2 then decide ((0 ≤ n ∧ n ≤ (v.1 3 : Int) - 1) ∧ v.2 7 (v.2 12 n.toNat).toNat < 3) else if q = 3 then decide ((0 ≤ n ∧ n ≤ (v.1 1 : Int) - 1) ∧ v.2 6 n.toNat = 1 ∧ v.2 7 n.toNat < 3) else if q = 4 then decide (1 ≤ n ∧ n ≤ 99) else decide (0 ≤ n ∧ n ≤ 99)
def doV (v : pv_T) (q n : Int) : pv_T := if q = 0 then engL v n.toNat else if q = 1 then (enA 40 v (v.1 1)).2 else if q = 2 then meV v n.toNat else if q = 3 then poV v n.toNat else if q = 4 then pu v 0 0 (shV v n) else pu v 0 1 n
theorem shV_b {v : pv_T} {n : Int} (h7 : 0 ≤ v.2 0 0) (hn : 0 ≤ n) : 0 ≤ shV v n ∧ shV v n ≤ 99 := by unfold shV; split <;> omega
theorem doV_A {v : pv_T} {q n : Int} (hv : pvA v) (hq : 0 ≤ q ∧ q ≤ 5) (c : canB v q n = true) : pvA (doV v q n) ∧ sameK v (doV v q n) := by
  have h7 := hv.1.2.2.2.2.2.2
  have hq' : q = 0 ∨ q = 1 ∨ q = 2 ∨ q = 3 ∨ q = 4 ∨ q = 5 := by omega
  rcases hq' with rfl | rfl | rfl | rfl | rfl | rfl
  · have d := of_decide_eq_true (show decide _ = true from c)
    exact ⟨engL_A hv d.2.2.2 (by omega), engL_S.K⟩
  · exact ⟨enA_A hv, (enA_S _).K⟩
  · have d := of_decide_eq_true (show decide _ = true from c)
    exact ⟨meV_A hv (by omega) d.2, meV_K⟩
  · have d := of_decide_eq_true (show decide _ = true from c)
    exact ⟨poV_A hv (by omega) d.2.2, poV_K⟩
  · have d := of_decide_eq_true (show decide _ = true from c)
    have := shV_b (n := n) h7.1 (by omega)
    exact ⟨pu0_A hv (Or.inl rfl) this, pu_K (by omega)⟩
  · have d := of_decide_eq_true (show decide _ = true from c)
    exact ⟨pu0_A hv (Or.inr rfl) d, pu_K (by omega)⟩
section ONE
variable {h : am_H} {v : pv_T}
theorem bI_d {p : Prop} [Decidable p] : bI (decide p = true) = bI p := by
  by_cases c : p
  · rw [show bI p = 1 from if_pos c]; exact if_pos (decide_eq_true c)
  · rw [show bI p = 0 from if_neg c]; exact if_neg (fun z => c (of_decide_eq_true z))
theorem bI_1 {p : Prop} [Decidable p] (c : p) : bI p = 1 := if_pos c
theorem bI_00 {p : Prop} [Decidable p] (c : ¬ p) : bI p = 0 := if_neg c
/-- whether, then what -/
theorem k_isDone {q n : Int} {y : Int32} (hv : pvA v) (P : cl_pl h 0 v) (hq : 0 ≤ q ∧ q ≤ 5) (hn : 0 ≤ n ∧ n ≤ 999) (hy : q ≠ 1 → y = iI n) : (canB v q n = true → ∃ h', f_X8_isDone 0 (iI q) y h = some (iI 1, h') ∧ cl_pl h' 0 (doV v q n)) ∧ (¬ canB v q n = true → f_X8_isDone 0 (iI q) y h = some (iI 0, h)) := by
  have hv1 := hv.1
  have h8 := hv1.1
  have h7 := hv1.2.2.2.2.2.2
  obtain ⟨j, rfl⟩ : ∃ j : Nat, n = j := ⟨n.toNat, by omega⟩
  have hq' : q = 0 ∨ q = 1 ∨ q = 2 ∨ q = 3 ∨ q = 4 ∨ q = 5 := by omega
  rcases hq' with rfl | rfl | rfl | rfl | rfl | rfl
  · have ey := hy (by omega)
    subst ey
    have e0 : canB v 0 (j : Int) = decide ((0 ≤ (j : Int) ∧ (j : Int) ≤ (v.1 1 : Int) - 1) ∧ v.2 6 j = 0 ∧ 0 < v.1 0 ∧ v.1 3 ≤ 40) := rfl
    have d0 : doV v 0 (j : Int) = engL v j := rfl
    have ec : f_X5_canEngrave 0 (iI (j : Int)) h = some (iI (bI ((0 ≤ (j : Int) ∧ (j : Int) ≤ (v.1 1 : Int) - 1) ∧ v.2 6 j = 0 ∧ 0 < v.1 0 ∧ v.1 3 ≤ 40))) := by
      by_cases hj : j < v.1 1
      · rw [k_canEngrave (pvW_of hv1) (by omega) P hj]
        congr 2
        unfold bI
        (repeat' split) <;> first | rfl | (exfalso; omega)
      · have ea := k_hasLetter hv1 P.2.1 (i := (j : Int)) (by omega)
        rw [bI_00 (by omega)] at ea
        rw [bI_00 (by omega)]
        unfold f_X5_canEngrave
        simp (disch := omega) only [xI_le, xI_lt, xI_eq, xI_0, xI_ib, if_pos, if_neg, if_true, if_false, xI_cl, Int.toNat_natCast, iI_m, iI_a, iI_s, iI_1, xI_n, Option.bind_some, Int.natCast_add, Int.natCast_one, xI_zb, if_bI0, if_bI1, xI_rn, xI_ti, ea]
    rw [e0, d0]
    refine ⟨fun c => ?_, fun c => ?_⟩
    · have d := of_decide_eq_true c
      rw [bI_1 d] at ec
      obtain ⟨h', e1, P1⟩ := k_engraveLetter (pvW_of hv1) d.2.2.2 P (j := j) (by omega)
      refine ⟨h', ?_, P1⟩
      unfold f_X8_isDone
      simp (disch := omega) only [xI_le, xI_lt, xI_eq, xI_0, xI_ib, if_pos, if_neg, if_true, if_false, xI_cl, Int.toNat_natCast, iI_m, iI_a, iI_s, iI_1, xI_n, Option.bind_some, Int.natCast_add, Int.natCast_one, xI_zb, if_bI0, if_bI1, xI_rn, xI_ti, ec, e1]
    · have d := fun z => c (decide_eq_true z)
      rw [bI_00 d] at ec
      unfold f_X8_isDone
      simp (disch := omega) only [xI_le, xI_lt, xI_eq, xI_0, xI_ib, if_pos, if_neg, if_true, if_false, xI_cl, Int.toNat_natCast, iI_m, iI_a, iI_s, iI_1, xI_n, Option.bind_some, Int.natCast_add, Int.natCast_one, xI_zb, if_bI0, if_bI1, xI_rn, xI_ti, ec]
  · have e0 : canB v 1 (j : Int) = cAll v := rfl
    have d0 : doV v 1 (j : Int) = (enA 40 v (v.1 1)).2 := rfl
    have ec := k_canPlanned hv1 P
    rw [e0, d0]
    refine ⟨fun c => ?_, fun c => ?_⟩
    · rw [bI_1 c] at ec
      obtain ⟨h', e1, P1⟩ := k_engravePlanned (pvW_of hv1) h8.2.2.2 (cAll_t c).2.1 P
      refine ⟨h', ?_, P1⟩
      unfold f_X8_isDone
      simp (disch := omega) only [xI_le, xI_lt, xI_eq, xI_0, xI_ib, if_pos, if_neg, if_true, if_false, xI_cl, Int.toNat_natCast, iI_m, iI_a, iI_s, iI_1, xI_n, Option.bind_some, Int.natCast_add, Int.natCast_one, xI_zb, if_bI0, if_bI1, xI_rn, xI_ti, ec, e1]
    · rw [bI_00 c] at ec
      unfold f_X8_isDone
      simp (disch := omega) only [xI_le, xI_lt, xI_eq, xI_0, xI_ib, if_pos, if_neg, if_true, if_false, xI_cl, Int.toNat_natCast, iI_m, iI_a, iI_s, iI_1, xI_n, Option.bind_some, Int.natCast_add, Int.natCast_one, xI_zb, if_bI0, if_bI1, xI_rn, xI_ti, ec]
  · have ey := hy (by omega)
    subst ey
    have e0 : canB v 2 (j : Int) = decide ((0 ≤ (j : Int) ∧ (j : Int) ≤ (v.1 3 : Int) - 1) ∧ v.2 7 (v.2 12 j).toNat < 3) := rfl
    have d0 : doV v 2 (j : Int) = meV v j := rfl
    rw [e0, d0]
    by_cases hj : j < v.1 3
    · have g6 := hv1.2.2.2.2.2.1 j hj
      obtain ⟨l, el⟩ : ∃ l : Nat, v.2 12 j = l := ⟨(v.2 12 j).toNat, by omega⟩
      have ec := k_canMend hv1 hj el P
      rw [el, Int.toNat_natCast]
      have em : meV v j = dropS (pu v 7 l (v.2 7 l + 1)) j := by unfold meV; rw [el, Int.toNat_natCast]
      rw [em]
      refine ⟨fun c => ?_, fun c => ?_⟩
      · have d := of_decide_eq_true c
        rw [bI_1 d.2] at ec
        obtain ⟨h', e1, P1⟩ := k_mendScratch hv1 hj el P
        refine ⟨h', ?_, P1⟩
        unfold f_X8_isDone
        simp (disch := omega) only [xI_le, xI_lt, xI_eq, xI_0, xI_ib, if_pos, if_neg, if_true, if_false, xI_cl, Int.toNat_natCast, iI_m, iI_a, iI_s, iI_1, xI_n, Option.bind_some, Int.natCast_add, Int.natCast_one, xI_zb, if_bI0, if_bI1, xI_rn, xI_ti, ec, e1]
      · have d : ¬ v.2 7 l < 3 := fun z => c (decide_eq_true ⟨by omega, z⟩)
        rw [bI_00 d] at ec
        unfold f_X8_isDone
        simp (disch := omega) only [xI_le, xI_lt, xI_eq, xI_0, xI_ib, if_pos, if_neg, if_true, if_false, xI_cl, Int.toNat_natCast, iI_m, iI_a, iI_s, iI_1, xI_n, Option.bind_some, Int.natCast_add, Int.natCast_one, xI_zb, if_bI0, if_bI1, xI_rn, xI_ti, ec]
    · have ea := k_hasScratch hv1 P.2.2.2.2.1 (i := (j : Int)) (by omega)
      rw [bI_00 (by omega)] at ea
      have ec : f_X5_canMend 0 (iI (j : Int)) h = some (iI 0) := by
        unfold f_X5_canMend
        simp (disch := omega) only [xI_le, xI_lt, xI_eq, xI_0, xI_ib, if_pos, if_neg, if_true, if_false, xI_cl, Int.toNat_natCast, iI_m, iI_a, iI_s, iI_1, xI_n, Option.bind_some, Int.natCast_add, Int.natCast_one, xI_zb, if_bI0, if_bI1, xI_rn, xI_ti, ea]
      refine ⟨fun c => absurd (of_decide_eq_true c).1 (by omega), fun _ => ?_⟩
      unfold f_X8_isDone
      simp (disch := omega) only [xI_le, xI_lt, xI_eq, xI_0, xI_ib, if_pos, if_neg, if_true, if_false, xI_cl, Int.toNat_natCast, iI_m, iI_a, iI_s, iI_1, xI_n, Option.bind_some, Int.natCast_add, Int.natCast_one, xI_zb, if_bI0, if_bI1, xI_rn, xI_ti, ec]
  · have ey := hy (by omega)
    subst ey
    have e0 : canB v 3 (j : Int) = decide ((0 ≤ (j : Int) ∧ (j : Int) ≤ (v.1 1 : Int) - 1) ∧ v.2 6 j = 1 ∧ v.2 7 j < 3) := rfl
    have d0 : doV v 3 (j : Int) = poV v j := rfl
    have ec : f_X5_canPolish 0 (iI (j : Int)) h = some (iI (bI ((0 ≤ (j : Int) ∧ (j : Int) ≤ (v.1 1 : Int) - 1) ∧ v.2 6 j = 1 ∧ v.2 7 j < 3))) := by
      by_cases hj : j < v.1 1
      · rw [k_canPolish hv1 hj P]
        congr 2
        unfold bI
        (repeat' split) <;> first | rfl | (exfalso; omega)
      · have ea := k_hasLetter hv1 P.2.1 (i := (j : Int)) (by omega)
        rw [bI_00 (by omega)] at ea
        rw [bI_00 (by omega)]
        unfold f_X5_canPolish
        simp (disch := omega) only [xI_le, xI_lt, xI_eq, xI_0, xI_ib, if_pos, if_neg, if_true, if_false, xI_cl, Int.toNat_natCast, iI_m, iI_a, iI_s, iI_1, xI_n, Option.bind_some, Int.natCast_add, Int.natCast_one, xI_zb, if_bI0, if_bI1, xI_rn, xI_ti, ea]
    rw [e0, d0]
    refine ⟨fun c => ?_, fun c => ?_⟩
    · have d := of_decide_eq_true c
      rw [bI_1 d] at ec
      obtain ⟨h', e1, P1⟩ := k_polishLetter hv1 (l := j) (by omega) P
      refine ⟨h', ?_, P1⟩
      unfold f_X8_isDone
      simp (disch := omega) only [xI_le, xI_lt, xI_eq, xI_0, xI_ib, if_pos, if_neg, if_true, if_false, xI_cl, Int.toNat_natCast, iI_m, iI_a, iI_s, iI_1, xI_n, Option.bind_some, Int.natCast_add, Int.natCast_one, xI_zb, if_bI0, if_bI1, xI_rn, xI_ti, ec, e1]
    · have d := fun z => c (decide_eq_true z)
      rw [bI_00 d] at ec
      unfold f_X8_isDone
      simp (disch := omega) only [xI_le, xI_lt, xI_eq, xI_0, xI_ib, if_pos, if_neg, if_true, if_false, xI_cl, Int.toNat_natCast, iI_m, iI_a, iI_s, iI_1, xI_n, Option.bind_some, Int.natCast_add, Int.natCast_one, xI_zb, if_bI0, if_bI1, xI_rn, xI_ti, ec]
  · have ey := hy (by omega)
    subst ey
    have e0 : canB v 4 (j : Int) = decide (1 ≤ (j : Int) ∧ (j : Int) ≤ 99) := rfl
    have d0 : doV v 4 (j : Int) = pu v 0 0 (shV v j) := rfl
    have ec : f_X1_canSharpenBy (iI (j : Int)) = some (iI (bI (1 ≤ (j : Int) ∧ (j : Int) ≤ 99))) := by
      unfold f_X1_canSharpenBy
      simp (disch := omega) only [xI_le, xI_lt, xI_eq, xI_0, xI_ib, if_pos, if_neg, if_true, if_false, xI_cl, Int.toNat_natCast, iI_m, iI_a, iI_s, iI_1, xI_n, Option.bind_some, Int.natCast_add, Int.natCast_one, xI_zb, if_bI0, if_bI1, xI_rn, xI_ti, k_isWithin (n := (j : Int)) (a := 1) (b := 99) (by omega) (by omega) (by omega)]
    rw [e0, d0]
    refine ⟨fun c => ?_, fun c => ?_⟩
    · have d := of_decide_eq_true c
      rw [bI_1 d] at ec
      refine ⟨am_u h (.inr 0) 16 0 (iI (shV v j)), ?_, P.g0⟩
      unfold f_X8_isDone f_X1_sharpenBy shV
      simp (disch := omega) only [xI_le, xI_lt, xI_eq, xI_0, xI_ib, if_pos, if_neg, if_true, if_false, xI_cl, Int.toNat_natCast, iI_m, iI_a, iI_s, iI_1, xI_n, Option.bind_some, Int.natCast_add, Int.natCast_one, xI_zb, if_bI0, if_bI1, xI_rn, xI_ti, ec, P.2.2.2.1.1, k_min (a := 99) (b := v.2 0 0 + (j : Int)) (by omega) (by omega), am_lt, au_s]
    · have d := fun z => c (decide_eq_true z)
      rw [bI_00 d] at ec
      unfold f_X8_isDone
      simp (disch := omega) only [xI_le, xI_lt, xI_eq, xI_0, xI_ib, if_pos, if_neg, if_true, if_false, xI_cl, Int.toNat_natCast, iI_m, iI_a, iI_s, iI_1, xI_n, Option.bind_some, Int.natCast_add, Int.natCast_one, xI_zb, if_bI0, if_bI1, xI_rn, xI_ti, ec]
  · have ey := hy (by omega)
    subst ey
    have e0 : canB v 5 (j : Int) = decide (0 ≤ (j : Int) ∧ (j : Int) ≤ 99) := rfl
    have d0 : doV v 5 (j : Int) = pu v 0 1 j := rfl
    have ec : f_X5_canHaveMargin (iI (j : Int)) = some (iI (bI (0 ≤ (j : Int) ∧ (j : Int) ≤ 99))) := by
      unfold f_X5_canHaveMargin
      simp (disch := omega) only [xI_le, xI_lt, xI_eq, xI_0, xI_ib, if_pos, if_neg, if_true, if_false, xI_cl, Int.toNat_natCast, iI_m, iI_a, iI_s, iI_1, xI_n, Option.bind_some, Int.natCast_add, Int.natCast_one, xI_zb, if_bI0, if_bI1, xI_rn, xI_ti, k_isWithin (n := (j : Int)) (a := 0) (b := 99) (by omega) (by omega) (by omega)]
    rw [e0, d0]
    refine ⟨fun c => ?_, fun c => ?_⟩
    · have d := of_decide_eq_true c
      rw [bI_1 d] at ec
      refine ⟨am_u h (.inr 0) 0 5 (iI j), ?_, P.m0⟩
      unfold f_X8_isDone
      simp (disch := omega) only [xI_le, xI_lt, xI_eq, xI_0, xI_ib, if_pos, if_neg, if_true, if_false, xI_cl, Int.toNat_natCast, iI_m, iI_a, iI_s, iI_1, xI_n, Option.bind_some, Int.natCast_add, Int.natCast_one, xI_zb, if_bI0, if_bI1, xI_rn, xI_ti, ec, am_lt]
    · have d := fun z => c (decide_eq_true z)
      rw [bI_00 d] at ec
      unfold f_X8_isDone
      simp (disch := omega) only [xI_le, xI_lt, xI_eq, xI_0, xI_ib, if_pos, if_neg, if_true, if_false, xI_cl, Int.toNat_natCast, iI_m, iI_a, iI_s, iI_1, xI_n, Option.bind_some, Int.natCast_add, Int.natCast_one, xI_zb, if_bI0, if_bI1, xI_rn, xI_ti, ec]
theorem m_may {k : Nat} {q n : Int} (hv : pvA v) (P : mo_pl h v) (hk : k < 60) (hq : 0 ≤ q ∧ q ≤ 5) (hn : 0 ≤ n ∧ n ≤ 999) (r13 : h.1 (.inl 0) 13 k = iI q) (r14 : q ≠ 1 → h.1 (.inl 0) 14 k = iI n) : f_X12_may (iI k) h = some (iI (bI (canB v q n = true))) := by
  have hv1 := hv.1
  have h8 := hv1.1
  obtain ⟨j, rfl⟩ : ∃ j : Nat, n = j := ⟨n.toNat, by omega⟩
  have hq' : q = 0 ∨ q = 1 ∨ q = 2 ∨ q = 3 ∨ q = 4 ∨ q = 5 := by omega
  unfold f_X12_may
  rcases hq' with rfl | rfl | rfl | rfl | rfl | rfl
  · have r14' := r14 (by omega)
    have e0 : canB v 0 (j : Int) = decide ((0 ≤ (j : Int) ∧ (j : Int) ≤ (v.1 1 : Int) - 1) ∧ v.2 6 j = 0 ∧ 0 < v.1 0 ∧ v.1 3 ≤ 40) := rfl
    rw [e0, bI_d]
    have ea := m_isLetter0 hv1 P (i := (j : Int)) (by omega)
    by_cases hj : j < v.1 1
    · rw [bI_1 (by omega)] at ea
      have eb := m_isPlanned hv1 P hj
      have ec := m_mayEngrave hv1 P
      by_cases c : v.2 6 j = 0
      · rw [bI_1 c] at eb
        by_cases d : 0 < v.1 0 ∧ v.1 3 ≤ 40
        · rw [bI_1 d] at ec
          rw [bI_1 ⟨by omega, c, d⟩]
          simp (disch := omega) only [xI_le, xI_lt, xI_eq, xI_0, xI_ib, if_pos, if_neg, if_true, if_false, xI_cl, Int.toNat_natCast, iI_m, iI_a, iI_s, iI_1, xI_n, Option.bind_some, Int.natCast_add, Int.natCast_one, xI_zb, if_bI0, if_bI1, xI_rn, xI_ti, r13, r14', ea, eb, ec]
        · rw [bI_00 d] at ec
          rw [bI_00 (fun z => d z.2.2)]
          simp (disch := omega) only [xI_le, xI_lt, xI_eq, xI_0, xI_ib, if_pos, if_neg, if_true, if_false, xI_cl, Int.toNat_natCast, iI_m, iI_a, iI_s, iI_1, xI_n, Option.bind_some, Int.natCast_add, Int.natCast_one, xI_zb, if_bI0, if_bI1, xI_rn, xI_ti, r13, r14', ea, eb, ec]
      · rw [bI_00 c] at eb
        rw [bI_00 (fun z => c z.2.1)]
        simp (disch := omega) only [xI_le, xI_lt, xI_eq, xI_0, xI_ib, if_pos, if_neg, if_true, if_false, xI_cl, Int.toNat_natCast, iI_m, iI_a, iI_s, iI_1, xI_n, Option.bind_some, Int.natCast_add, Int.natCast_one, xI_zb, if_bI0, if_bI1, xI_rn, xI_ti, r13, r14', ea, eb]
    · rw [bI_00 (by omega)] at ea
      rw [bI_00 (by omega)]
      simp (disch := omega) only [xI_le, xI_lt, xI_eq, xI_0, xI_ib, if_pos, if_neg, if_true, if_false, xI_cl, Int.toNat_natCast, iI_m, iI_a, iI_s, iI_1, xI_n, Option.bind_some, Int.natCast_add, Int.natCast_one, xI_zb, if_bI0, if_bI1, xI_rn, xI_ti, r13, r14', ea]
  · have e0 : canB v 1 (j : Int) = cAll v := rfl
    rw [e0]
    simp (disch := omega) only [xI_le, xI_lt, xI_eq, xI_0, xI_ib, if_pos, if_neg, if_true, if_false, xI_cl, Int.toNat_natCast, iI_m, iI_a, iI_s, iI_1, xI_n, Option.bind_some, Int.natCast_add, Int.natCast_one, xI_zb, if_bI0, if_bI1, xI_rn, xI_ti, r13, m_mayAll hv1 P]
  · have r14' := r14 (by omega)
    have e0 : canB v 2 (j : Int) = decide ((0 ≤ (j : Int) ∧ (j : Int) ≤ (v.1 3 : Int) - 1) ∧ v.2 7 (v.2 12 j).toNat < 3) := rfl
    rw [e0, bI_d]
    have ea := m_isScratch hv1 P (i := (j : Int)) (by omega)
    by_cases hj : j < v.1 3
    · rw [bI_1 (by omega)] at ea
      have g6 := hv1.2.2.2.2.2.1 j hj
      obtain ⟨l, el⟩ : ∃ l : Nat, v.2 12 j = l := ⟨(v.2 12 j).toNat, by omega⟩
      have ec := m_mayMendS hv1 P hj el
      rw [el, Int.toNat_natCast]
      by_cases d : v.2 7 l < 3
      · rw [bI_1 d] at ec
        rw [bI_1 ⟨by omega, d⟩]
        simp (disch := omega) only [xI_le, xI_lt, xI_eq, xI_0, xI_ib, if_pos, if_neg, if_true, if_false, xI_cl, Int.toNat_natCast, iI_m, iI_a, iI_s, iI_1, xI_n, Option.bind_some, Int.natCast_add, Int.natCast_one, xI_zb, if_bI0, if_bI1, xI_rn, xI_ti, r13, r14', ea, ec]
      · rw [bI_00 d] at ec
        rw [bI_00 (fun z => d z.2)]
        simp (disch := omega) only [xI_le, xI_lt, xI_eq, xI_0, xI_ib, if_pos, if_neg, if_true, if_false, xI_cl, Int.toNat_natCast, iI_m, iI_a, iI_s, iI_1, xI_n, Option.bind_some, Int.natCast_add, Int.natCast_one, xI_zb, if_bI0, if_bI1, xI_rn, xI_ti, r13, r14', ea, ec]
    · rw [bI_00 (by omega)] at ea
      rw [bI_00 (fun z => absurd z.1 (by omega))]
      simp (disch := omega) only [xI_le, xI_lt, xI_eq, xI_0, xI_ib, if_pos, if_neg, if_true, if_false, xI_cl, Int.toNat_natCast, iI_m, iI_a, iI_s, iI_1, xI_n, Option.bind_some, Int.natCast_add, Int.natCast_one, xI_zb, if_bI0, if_bI1, xI_rn, xI_ti, r13, r14', ea]
  · have r14' := r14 (by omega)
    have e0 : canB v 3 (j : Int) = decide ((0 ≤ (j : Int) ∧ (j : Int) ≤ (v.1 1 : Int) - 1) ∧ v.2 6 j = 1 ∧ v.2 7 j < 3) := rfl
    rw [e0, bI_d]
    have ea := m_isLetter0 hv1 P (i := (j : Int)) (by omega)
    by_cases hj : j < v.1 1
    · rw [bI_1 (by omega)] at ea
      have ec := m_mayPolish hv1 P hj
      by_cases d : v.2 6 j = 1 ∧ v.2 7 j < 3
      · rw [bI_1 d] at ec
        rw [bI_1 ⟨by omega, d⟩]
        simp (disch := omega) only [xI_le, xI_lt, xI_eq, xI_0, xI_ib, if_pos, if_neg, if_true, if_false, xI_cl, Int.toNat_natCast, iI_m, iI_a, iI_s, iI_1, xI_n, Option.bind_some, Int.natCast_add, Int.natCast_one, xI_zb, if_bI0, if_bI1, xI_rn, xI_ti, r13, r14', ea, ec]
      · rw [bI_00 d] at ec
        rw [bI_00 (fun z => d z.2)]
        simp (disch := omega) only [xI_le, xI_lt, xI_eq, xI_0, xI_ib, if_pos, if_neg, if_true, if_false, xI_cl, Int.toNat_natCast, iI_m, iI_a, iI_s, iI_1, xI_n, Option.bind_some, Int.natCast_add, Int.natCast_one, xI_zb, if_bI0, if_bI1, xI_rn, xI_ti, r13, r14', ea, ec]
    · rw [bI_00 (by omega)] at ea
      rw [bI_00 (by omega)]
      simp (disch := omega) only [xI_le, xI_lt, xI_eq, xI_0, xI_ib, if_pos, if_neg, if_true, if_false, xI_cl, Int.toNat_natCast, iI_m, iI_a, iI_s, iI_1, xI_n, Option.bind_some, Int.natCast_add, Int.natCast_one, xI_zb, if_bI0, if_bI1, xI_rn, xI_ti, r13, r14', ea]
  · have r14' := r14 (by omega)
    have e0 : canB v 4 (j : Int) = decide (1 ≤ (j : Int) ∧ (j : Int) ≤ 99) := rfl
    rw [e0, bI_d]
    simp (disch := omega) only [xI_le, xI_lt, xI_eq, xI_0, xI_ib, if_pos, if_neg, if_true, if_false, xI_cl, Int.toNat_natCast, iI_m, iI_a, iI_s, iI_1, xI_n, Option.bind_some, Int.natCast_add, Int.natCast_one, xI_zb, if_bI0, if_bI1, xI_rn, xI_ti, r13, r14', m_isWidth (n := (j : Int)) (by omega)]
  · have r14' := r14 (by omega)
    have e0 : canB v 5 (j : Int) = decide (0 ≤ (j : Int) ∧ (j : Int) ≤ 99) := rfl
    have e : f_X12_isIn (iI (j : Int)).toInt64 (0 : Int64) (99 : Int64) = some (iI (bI (0 ≤ (j : Int) ∧ (j : Int) ≤ 99))) := by
      rw [m_isIn, xL_i (by omega) (by omega)]; rfl
    have ec : f_X12_isMargin (iI (j : Int)) = some (iI (bI (0 ≤ (j : Int) ∧ (j : Int) ≤ 99))) := by
      unfold f_X12_isMargin
      simp (disch := omega) only [xI_le, xI_lt, xI_eq, xI_0, xI_ib, if_pos, if_neg, if_true, if_false, xI_cl, Int.toNat_natCast, iI_m, iI_a, iI_s, iI_1, xI_n, Option.bind_some, Int.natCast_add, Int.natCast_one, xI_zb, if_bI0, if_bI1, xI_rn, xI_ti, e]
    rw [e0, bI_d]
    simp (disch := omega) only [xI_le, xI_lt, xI_eq, xI_0, xI_ib, if_pos, if_neg, if_true, if_false, xI_cl, Int.toNat_natCast, iI_m, iI_a, iI_s, iI_1, xI_n, Option.bind_some, Int.natCast_add, Int.natCast_one, xI_zb, if_bI0, if_bI1, xI_rn, xI_ti, r13, r14', ec]
theorem m_does {k : Nat} {q n : Int} (hv : pvA v) (P : mo_pl h v) (hk : k < 60) (hq : 0 ≤ q ∧ q ≤ 5) (hn : 0 ≤ n ∧ n ≤ 999) (r13 : h.1 (.inl 0) 13 k = iI q) (r14 : q ≠ 1 → h.1 (.inl 0) 14 k = iI n) (c : canB v q n = true) : ∃ y h', f_X12_does (iI k) h = some (y, h') ∧ mo_pl h' (doV v q n) ∧ Wr [(.inl 0, 2)] h h' := by
  have hv1 := hv.1
  have h8 := hv1.1
  have h7 := hv1.2.2.2.2.2.2
  obtain ⟨j, rfl⟩ : ∃ j : Nat, n = j := ⟨n.toNat, by omega⟩
  have hq' : q = 0 ∨ q = 1 ∨ q = 2 ∨ q = 3 ∨ q = 4 ∨ q = 5 := by omega
  rcases hq' with rfl | rfl | rfl | rfl | rfl | rfl
  · have r14' := r14 (by omega)
    have d := of_decide_eq_true (show decide ((0 ≤ (j : Int) ∧ (j : Int) ≤ (v.1 1 : Int) - 1) ∧ v.2 6 j = 0 ∧ 0 < v.1 0 ∧ v.1 3 ≤ 40) = true from c)
    obtain ⟨h', e1, P1⟩ := m_engraves (pvW_of hv1) (by omega) P (j := j) (by omega)
    have w1 := wr_X12_engraves e1
    refine ⟨iI (((engL v j).1 3 : Int) - v.1 3), h', ?_, P1, w1⟩
    unfold f_X12_does
    simp (disch := omega) only [xI_le, xI_lt, xI_eq, xI_0, xI_ib, if_pos, if_neg, if_true, if_false, xI_cl, Int.toNat_natCast, iI_m, iI_a, iI_s, iI_1, xI_n, Option.bind_some, Int.natCast_add, Int.natCast_one, xI_zb, if_bI0, if_bI1, xI_rn, xI_ti, r13, r14', e1]
  · obtain ⟨h', e1, P1⟩ := m_engravesAll (lim := 40) (pvW_of hv1) (by omega) h8.2.2.2 P
    have w1 := wr_X12_engravesAll e1
    have e1' : f_X12_engravesAll (iI 40) h = _ := e1
    refine ⟨iI (enA 40 v (v.1 1)).1, h', ?_, P1, w1⟩
    unfold f_X12_does
    simp (disch := omega) only [xI_le, xI_lt, xI_eq, xI_0, xI_ib, if_pos, if_neg, if_true, if_false, xI_cl, Int.toNat_natCast, iI_m, iI_a, iI_s, iI_1, xI_n, Option.bind_some, Int.natCast_add, Int.natCast_one, xI_zb, if_bI0, if_bI1, xI_rn, xI_ti, r13, e1']
  · have r14' := r14 (by omega)
    have d := of_decide_eq_true (show decide ((0 ≤ (j : Int) ∧ (j : Int) ≤ (v.1 3 : Int) - 1) ∧ v.2 7 (v.2 12 j).toNat < 3) = true from c)
    have hj : j < v.1 3 := by omega
    have g6 := hv1.2.2.2.2.2.1 j hj
    obtain ⟨l, el⟩ : ∃ l : Nat, v.2 12 j = l := ⟨(v.2 12 j).toNat, by omega⟩
    have em : doV v 2 (j : Int) = dropS (pu v 7 l (v.2 7 l + 1)) j := by
      show meV v j = _
      unfold meV; rw [el, Int.toNat_natCast]
    obtain ⟨h', e1, P1, w1⟩ := m_mends hv1 P hj el
    refine ⟨iI ((v.1 3 - 1 : Nat) : Int), h', ?_, by rw [em]; exact P1, w1⟩
    unfold f_X12_does
    simp (disch := omega) only [xI_le, xI_lt, xI_eq, xI_0, xI_ib, if_pos, if_neg, if_true, if_false, xI_cl, Int.toNat_natCast, iI_m, iI_a, iI_s, iI_1, xI_n, Option.bind_some, Int.natCast_add, Int.natCast_one, xI_zb, if_bI0, if_bI1, xI_rn, xI_ti, r13, r14', e1]
  · have r14' := r14 (by omega)
    have d := of_decide_eq_true (show decide ((0 ≤ (j : Int) ∧ (j : Int) ≤ (v.1 1 : Int) - 1) ∧ v.2 6 j = 1 ∧ v.2 7 j < 3) = true from c)
    obtain ⟨h', e1, P1⟩ := m_polishes hv1 (l := j) (by omega) P
    have w1 := wr_X12_polishes e1
    refine ⟨iI ((v.1 3 : Int) - cN (oth v j) (v.1 3)), h', ?_, P1, w1⟩
    unfold f_X12_does
    simp (disch := omega) only [xI_le, xI_lt, xI_eq, xI_0, xI_ib, if_pos, if_neg, if_true, if_false, xI_cl, Int.toNat_natCast, iI_m, iI_a, iI_s, iI_1, xI_n, Option.bind_some, Int.natCast_add, Int.natCast_one, xI_zb, if_bI0, if_bI1, xI_rn, xI_ti, r13, r14', e1]
  · have r14' := r14 (by omega)
    have d := of_decide_eq_true (show decide (1 ≤ (j : Int) ∧ (j : Int) ≤ 99) = true from c)
    refine ⟨iI (shV v j), am_u h (.inl 0) 2 3 (iI (shV v j)), ?_, mo_rw.u0 (j := 0) (Or.inl rfl) (fun i hi => by rw [au_s, if_neg hi]) (by rw [au_s, if_pos rfl]) P, Wr.u (by simp)⟩
    unfold f_X12_does f_X12_sharpens shV
    simp (disch := omega) only [xI_le, xI_lt, xI_eq, xI_0, xI_ib, if_pos, if_neg, if_true, if_false, xI_cl, Int.toNat_natCast, iI_m, iI_a, iI_s, iI_1, xI_n, Option.bind_some, Int.natCast_add, Int.natCast_one, xI_zb, if_bI0, if_bI1, xI_rn, xI_ti, r13, r14', show (3 : Int).toNat = 3 from rfl, P.1.2.2.2.1, m_lesser (a := 99) (b := v.2 0 0 + (j : Int)) (by omega) (by omega), am_lt, au_s]
  · have r14' := r14 (by omega)
    have d := of_decide_eq_true (show decide (0 ≤ (j : Int) ∧ (j : Int) ≤ 99) = true from c)
    refine ⟨iI (v.2 0 1), am_u h (.inl 0) 2 4 (iI j), ?_, mo_rw.u0 (j := 1) (Or.inr rfl) (fun i hi => by rw [au_s, if_neg hi]) (by rw [au_s, if_pos rfl]) P, Wr.u (by simp)⟩
    unfold f_X12_does f_X12_swapsCell
    simp (disch := omega) only [xI_le, xI_lt, xI_eq, xI_0, xI_ib, if_pos, if_neg, if_true, if_false, xI_cl, Int.toNat_natCast, iI_m, iI_a, iI_s, iI_1, xI_n, Option.bind_some, Int.natCast_add, Int.natCast_one, xI_zb, if_bI0, if_bI1, xI_rn, xI_ti, r13, r14', show (4 : Int).toNat = 4 from rfl, P.1.2.2.2.2.1, am_lt]
end ONE
