/-! mend, polish: the methods -/
section MPM
variable {h : am_H} {st : St} {v : pv_T}
theorem meV_K {s : Nat} : sameK v (meV v s) := meV_D.K
theorem poV_K {l : Nat} : sameK v (poV v l) := poV_D.K
def sMe (st : St) (i : Int) : St := if (0 ≤ i ∧ i ≤ (st.1.1 3 : Int) - 1) ∧ st.1.2 7 (st.1.2 12 i.toNat).toNat < 3 then setPl (stK st) (meV st.1 i.toNat) else st
def oMe (st : St) (i : Int) : Int32 ⊕ Nat := if 0 ≤ i ∧ i ≤ (st.1.1 3 : Int) - 1 then (if st.1.2 7 (st.1.2 12 i.toNat).toNat < 3 then .inl (iI ((st.1.1 3 - 1 : Nat) : Int)) else .inr 0) else .inr 2
theorem sMe_ok (ok : Ok st) {i : Int} : Ok (sMe st i) := by
  unfold sMe
  split
  next c => exact setPl_ok (stK_ok ok) (meV_A ok.1 (by omega) c.2) meV_K
  · exact ok
theorem cl_mend (ok : Ok st) (R : ClR h st) {i : Int} (hi : -2147483648 ≤ i ∧ i < 2147483648) : clC (f_X11_mend (iI i)) h (sMe st i) (oMe st i) := by
  have hv := ok.1.1
  have h8 := hv.1
  have ea := k_hasScratch hv R.1.2.2.2.2.1 hi
  unfold sMe oMe
  by_cases c : 0 ≤ i ∧ i ≤ (st.1.1 3 : Int) - 1
  · obtain ⟨s, rfl⟩ : ∃ j : Nat, i = j := ⟨i.toNat, by omega⟩
    rw [Int.toNat_natCast]
    have hs : s < st.1.1 3 := by omega
    have g6 := hv.2.2.2.2.2.1 s hs
    obtain ⟨j, ej⟩ : ∃ j : Nat, st.1.2 12 s = j := ⟨(st.1.2 12 s).toNat, by omega⟩
    have ec := k_canMend hv hs ej R.1
    rw [show bI (0 ≤ (s : Int) ∧ (s : Int) ≤ (st.1.1 3 : Int) - 1) = 1 from if_pos c] at ea
    have em : meV st.1 s = dropS (pu st.1 7 j (st.1.2 7 j + 1)) s := by unfold meV; rw [ej, Int.toNat_natCast]
    rw [ej, Int.toNat_natCast, em]
    by_cases d : st.1.2 7 j < 3
    · rw [if_pos ⟨c, d⟩, if_pos c, if_pos d]
      rw [show bI (st.1.2 7 j < 3) = 1 from if_pos d] at ec
      obtain ⟨h1, e1, C1, M1⟩ := cl_keep ok R
      obtain ⟨h2, e2, P2⟩ := k_mendScratch hv hs ej (show cl_pl h1 0 st.1 from C1.1)
      refine clC_ch C1 M1 (wr_X5_mendScratch e2) (by simp) P2 ?_
      unfold f_X11_mend
      simp (disch := omega) only [xI_le, xI_lt, xI_eq, xI_0, xI_ib, if_pos, if_neg, if_true, if_false, xI_cl, Int.toNat_natCast, iI_m, iI_a, iI_s, iI_1, xI_n, Option.bind_some, Int.natCast_add, Int.natCast_one, xI_zb, if_bI0, if_bI1, xI_rn, xI_ti, ea, ec, e1, e2]
    · rw [if_neg (fun z => d z.2), if_pos c, if_neg d]
      rw [show bI (st.1.2 7 j < 3) = 0 from if_neg d] at ec
      refine clC_w (h1 := h) ?_ (Wr.rf (L := [])) rfl rfl R
      unfold f_X11_mend
      simp (disch := omega) only [xI_le, xI_lt, xI_eq, xI_0, xI_ib, if_pos, if_neg, if_true, if_false, xI_cl, Int.toNat_natCast, iI_m, iI_a, iI_s, iI_1, xI_n, Option.bind_some, Int.natCast_add, Int.natCast_one, xI_zb, if_bI0, if_bI1, xI_rn, xI_ti, ea, ec]
  · rw [if_neg (fun z => c z.1), if_neg c]
    rw [show bI (0 ≤ i ∧ i ≤ (st.1.1 3 : Int) - 1) = 0 from if_neg c] at ea
    refine clC_w (h1 := h) ?_ (Wr.rf (L := [])) rfl rfl R
    unfold f_X11_mend
    simp (disch := omega) only [xI_le, xI_lt, xI_eq, xI_0, xI_ib, if_pos, if_neg, if_true, if_false, xI_cl, Int.toNat_natCast, iI_m, iI_a, iI_s, iI_1, xI_n, Option.bind_some, Int.natCast_add, Int.natCast_one, xI_zb, if_bI0, if_bI1, xI_rn, xI_ti, ea]
theorem m_mayMend (hv : pv_ok v) (R : mo_pl h v) {j : Nat} (hj : j < v.1 1) : f_X12_mayMend (iI j) h = some (iI (bI (v.2 7 j < 3))) := by
  have g3 := hv.2.2.1 j hj
  unfold f_X12_mayMend bI
  simp (disch := omega) only [xI_le, xI_lt, xI_eq, xI_0, xI_ib, if_pos, if_neg, if_true, if_false, xI_cl, Int.toNat_natCast, iI_m, iI_a, iI_s, iI_1, xI_n, Option.bind_some, Int.natCast_add, Int.natCast_one, xI_zb, if_bI0, if_bI1, xI_rn, xI_ti, m_ofL2 hv R hj]
  (repeat' split) <;> first | rfl | (exfalso; omega)
theorem m_mayMendS (hv : pv_ok v) (R : mo_pl h v) {s j : Nat} (hs : s < v.1 3) (ej : v.2 12 s = (j : Int)) : f_X12_mayMendScratch (iI s) h = some (iI (bI (v.2 7 j < 3))) := by
  have g6 := hv.2.2.2.2.2.1 s hs
  have eo := m_ofS0 hv R hs
  rw [ej] at eo
  unfold f_X12_mayMendScratch
  rw [eo, Option.bind_some, m_mayMend hv R (by omega), Option.bind_some]
  exact if_pos (by rw [xI_zb]; trivial)
theorem m_countsMend (hv : pv_ok v) (R : mo_pl h v) {j : Nat} (hj : j < v.1 1) : ∃ h', f_X12_countsMend (iI j) h = some h' ∧ mo_pl h' (pu v 7 j (v.2 7 j + 1)) ∧ Wr [(.inl 0, 2)] h h' := by
  have h8 := hv.1
  have g3 := hv.2.2.1 j hj
  refine ⟨am_u h (.inl 0) 2 (44 + 3 * j + 2) (iI (v.2 7 j + 1)), ?_, mo_rw.pu7 hv hj R, Wr.u (by simp)⟩
  unfold f_X12_countsMend f_X12_setsLetter
  simp (disch := omega) only [xI_le, xI_lt, xI_eq, xI_0, xI_ib, if_pos, if_neg, if_true, if_false, xI_cl, Int.toNat_natCast, iI_m, iI_a, iI_s, iI_1, xI_n, Option.bind_some, Int.natCast_add, Int.natCast_one, xI_zb, if_bI0, if_bI1, xI_rn, xI_ti, m_ofL2 hv R hj, am_lt, show (44 + 3 * (j : Int) + 2).toNat = 44 + 3 * j + 2 from by omega]
theorem m_mends (hv : pv_ok v) (R : mo_pl h v) {s j : Nat} (hs : s < v.1 3) (ej : v.2 12 s = (j : Int)) : ∃ h', f_X12_mends (iI s) h = some (iI ((v.1 3 - 1 : Nat) : Int), h') ∧ mo_pl h' (dropS (pu v 7 j (v.2 7 j + 1)) s) ∧ Wr [(.inl 0, 2)] h h' := by
  have h8 := hv.1
  have g6 := hv.2.2.2.2.2.1 s hs
  have eo := m_ofS0 hv R hs
  rw [ej] at eo
  obtain ⟨h1, e1, P1, w1⟩ := m_countsMend hv R (j := j) (by omega)
  obtain ⟨h2, e2, P2⟩ := m_drops (v := pu v 7 j (v.2 7 j + 1)) h8.1 h8.2.1 h8.2.2.1 hs h8.2.2.2 P1
  have r8 : h2.1 (.inl 0) 2 8 = iI ((v.1 3 - 1 : Nat) : Int) := P2.1.2.2.2.2.2.2.2.2
  refine ⟨h2, ?_, P2, w1.tr (wr_X12_dropsScratch e2)⟩
  unfold f_X12_mends
  simp (disch := omega) only [xI_le, xI_lt, xI_eq, xI_0, xI_ib, if_pos, if_neg, if_true, if_false, xI_cl, Int.toNat_natCast, iI_m, iI_a, iI_s, iI_1, xI_n, Option.bind_some, Int.natCast_add, Int.natCast_one, xI_zb, if_bI0, if_bI1, xI_rn, xI_ti, eo, e1, e2, show (8 : Int).toNat = 8 from rfl, r8]
theorem mo_mend (ok : Ok st) (R : MoR h st) {i : Int} (hi : -2147483648 ≤ i ∧ i < 2147483648) : moC (f_X12_mend (iI i)) h (sMe st i) (oMe st i) ex02 := by
  have hv := ok.1.1
  have h8 := hv.1
  have ea := m_isScratch hv R.1.1 hi
  unfold sMe oMe
  by_cases c : 0 ≤ i ∧ i ≤ (st.1.1 3 : Int) - 1
  · obtain ⟨s, rfl⟩ : ∃ j : Nat, i = j := ⟨i.toNat, by omega⟩
    rw [Int.toNat_natCast]
    have hs : s < st.1.1 3 := by omega
    have g6 := hv.2.2.2.2.2.1 s hs
    obtain ⟨j, ej⟩ : ∃ j : Nat, st.1.2 12 s = j := ⟨(st.1.2 12 s).toNat, by omega⟩
    have ec := m_mayMendS hv R.1.1 hs ej
    rw [show bI (0 ≤ (s : Int) ∧ (s : Int) ≤ (st.1.1 3 : Int) - 1) = 1 from if_pos c] at ea
    have em : meV st.1 s = dropS (pu st.1 7 j (st.1.2 7 j + 1)) s := by unfold meV; rw [ej, Int.toNat_natCast]
    have hK := meV_K (v := st.1) (s := s)
    rw [em] at hK
    rw [ej, Int.toNat_natCast, em]
    by_cases d : st.1.2 7 j < 3
    · rw [if_pos ⟨c, d⟩, if_pos c, if_pos d]
      rw [show bI (st.1.2 7 j < 3) = 1 from if_pos d] at ec
      obtain ⟨h', e, M, C, z⟩ := mo_change (m1 := f_X12_mends (iI (s : Int))) (v := dropS (pu st.1 7 j (st.1.2 7 j + 1)) s) (x := iI ((st.1.1 3 - 1 : Nat) : Int)) ok R hK (fun s' P => m_mends hv P hs ej)
      refine moC_ch ?_ M C z
      unfold f_X12_mend f_X12_mend_25
      rw [ea, Option.bind_some, if_neg (by decide), ec, Option.bind_some, if_neg (by decide), m_gB1, Option.bind_some]
      exact (if_neg (show ¬ (iI 1 : Int32) = 0 by decide)).trans e
    · rw [if_neg (fun z => d z.2), if_pos c, if_neg d]
      rw [show bI (st.1.2 7 j < 3) = 0 from if_neg d] at ec
      refine moC_c (b := iI 0) (c := iI 2) ?_ R agr02b
      unfold f_X12_mend f_X12_mend_25
      simp (disch := omega) only [xI_le, xI_lt, xI_eq, xI_0, xI_ib, if_pos, if_neg, if_true, if_false, xI_cl, Int.toNat_natCast, iI_m, iI_a, iI_s, iI_1, xI_n, Option.bind_some, Int.natCast_add, Int.natCast_one, xI_zb, if_bI0, if_bI1, xI_rn, xI_ti, ea, ec, m_gB2]
  · rw [if_neg (fun z => c z.1), if_neg c]
    rw [show bI (0 ≤ i ∧ i ≤ (st.1.1 3 : Int) - 1) = 0 from if_neg c] at ea
    refine moC_c (b := iI 0) (c := iI 1) ?_ R agr02a
    unfold f_X12_mend f_X12_mend_25
    simp (disch := omega) only [xI_le, xI_lt, xI_eq, xI_0, xI_ib, if_pos, if_neg, if_true, if_false, xI_cl, Int.toNat_natCast, iI_m, iI_a, iI_s, iI_1, xI_n, Option.bind_some, Int.natCast_add, Int.natCast_one, xI_zb, if_bI0, if_bI1, xI_rn, xI_ti, ea, m_gB00]
/-! polish -/
def sPo (st : St) (i : Int) : St := if (0 ≤ i ∧ i ≤ (st.1.1 1 : Int) - 1) ∧ st.1.2 6 i.toNat = 1 ∧ st.1.2 7 i.toNat < 3 then setPl (stK st) (poV st.1 i.toNat) else st
def oPo (st : St) (i : Int) : Int32 ⊕ Nat := if 0 ≤ i ∧ i ≤ (st.1.1 1 : Int) - 1 then (if st.1.2 6 i.toNat = 1 ∧ st.1.2 7 i.toNat < 3 then .inl (iI ((st.1.1 3 : Int) - cN (oth st.1 i.toNat) (st.1.1 3))) else .inr 0) else .inr 2
theorem sPo_ok (ok : Ok st) {i : Int} : Ok (sPo st i) := by
  unfold sPo
  split
  next c => exact setPl_ok (stK_ok ok) (poV_A ok.1 (by omega) c.2.2) poV_K
  · exact ok
theorem cl_polish (ok : Ok st) (R : ClR h st) {i : Int} (hi : -2147483648 ≤ i ∧ i < 2147483648) : clC (f_X11_polish (iI i)) h (sPo st i) (oPo st i) := by
  have hv := ok.1.1
  have h8 := hv.1
  have ea := k_hasLetter hv R.1.2.1 hi
  unfold sPo oPo
  by_cases c : 0 ≤ i ∧ i ≤ (st.1.1 1 : Int) - 1
  · obtain ⟨j, rfl⟩ : ∃ j : Nat, i = j := ⟨i.toNat, by omega⟩
    rw [Int.toNat_natCast]
    have hj : j < st.1.1 1 := by omega
    have ec := k_canPolish hv hj R.1
    rw [show bI (0 ≤ (j : Int) ∧ (j : Int) ≤ (st.1.1 1 : Int) - 1) = 1 from if_pos c] at ea
    by_cases d : st.1.2 6 j = 1 ∧ st.1.2 7 j < 3
    · rw [if_pos ⟨c, d⟩, if_pos c, if_pos d]
      rw [show bI (st.1.2 6 j = 1 ∧ st.1.2 7 j < 3) = 1 from if_pos d] at ec
      obtain ⟨h1, e1, C1, M1⟩ := cl_keep ok R
      obtain ⟨h2, e2, P2⟩ := k_polishLetter hv hj (show cl_pl h1 0 st.1 from C1.1)
      refine clC_ch C1 M1 (wr_X5_polishLetter e2) (by simp) P2 ?_
      unfold f_X11_polish
      simp (disch := omega) only [xI_le, xI_lt, xI_eq, xI_0, xI_ib, if_pos, if_neg, if_true, if_false, xI_cl, Int.toNat_natCast, iI_m, iI_a, iI_s, iI_1, xI_n, Option.bind_some, Int.natCast_add, Int.natCast_one, xI_zb, if_bI0, if_bI1, xI_rn, xI_ti, ea, ec, e1, e2]
    · rw [if_neg (fun z => d z.2), if_pos c, if_neg d]
      rw [show bI (st.1.2 6 j = 1 ∧ st.1.2 7 j < 3) = 0 from if_neg d] at ec
      refine clC_w (h1 := h) ?_ (Wr.rf (L := [])) rfl rfl R
      unfold f_X11_polish
      simp (disch := omega) only [xI_le, xI_lt, xI_eq, xI_0, xI_ib, if_pos, if_neg, if_true, if_false, xI_cl, Int.toNat_natCast, iI_m, iI_a, iI_s, iI_1, xI_n, Option.bind_some, Int.natCast_add, Int.natCast_one, xI_zb, if_bI0, if_bI1, xI_rn, xI_ti, ea, ec]
  · rw [if_neg (fun z => c z.1), if_neg c]
    rw [show bI (0 ≤ i ∧ i ≤ (st.1.1 1 : Int) - 1) = 0 from if_neg c] at ea
    refine clC_w (h1 := h) ?_ (Wr.rf (L := [])) rfl rfl R
    unfold f_X11_polish
    simp (disch := omega) only [xI_le, xI_lt, xI_eq, xI_0, xI_ib, if_pos, if_neg, if_true, if_false, xI_cl, Int.toNat_natCast, iI_m, iI_a, iI_s, iI_1, xI_n, Option.bind_some, Int.natCast_add, Int.natCast_one, xI_zb, if_bI0, if_bI1, xI_rn, xI_ti, ea]
theorem m_mayPolish (hv : pv_ok v) (R : mo_pl h v) {j : Nat} (hj : j < v.1 1) : f_X12_mayPolish (iI j) h = some (iI (bI (v.2 6 j = 1 ∧ v.2 7 j < 3))) := by
  have g3 := hv.2.2.1 j hj
  have ea := m_isPlanned hv R hj
  have eb := m_mayMend hv R hj
  unfold f_X12_mayPolish
  by_cases c : v.2 6 j = 1
  · rw [show bI (v.2 6 j = 0) = 0 from if_neg (by omega)] at ea
    by_cases d : v.2 7 j < 3
    · rw [show bI (v.2 7 j < 3) = 1 from if_pos d] at eb
      rw [show bI (v.2 6 j = 1 ∧ v.2 7 j < 3) = 1 from if_pos ⟨c, d⟩]
      simp (disch := omega) only [xI_le, xI_lt, xI_eq, xI_0, xI_ib, if_pos, if_neg, if_true, if_false, xI_cl, Int.toNat_natCast, iI_m, iI_a, iI_s, iI_1, xI_n, Option.bind_some, Int.natCast_add, Int.natCast_one, xI_zb, if_bI0, if_bI1, xI_rn, xI_ti, ea, eb]
    · rw [show bI (v.2 7 j < 3) = 0 from if_neg d] at eb
      rw [show bI (v.2 6 j = 1 ∧ v.2 7 j < 3) = 0 from if_neg (fun z => d z.2)]
      simp (disch := omega) only [xI_le, xI_lt, xI_eq, xI_0, xI_ib, if_pos, if_neg, if_true, if_false, xI_cl, Int.toNat_natCast, iI_m, iI_a, iI_s, iI_1, xI_n, Option.bind_some, Int.natCast_add, Int.natCast_one, xI_zb, if_bI0, if_bI1, xI_rn, xI_ti, ea, eb]
  · rw [show bI (v.2 6 j = 0) = 1 from if_pos (by omega)] at ea
    rw [show bI (v.2 6 j = 1 ∧ v.2 7 j < 3) = 0 from if_neg (fun z => c z.1)]
    simp (disch := omega) only [xI_le, xI_lt, xI_eq, xI_0, xI_ib, if_pos, if_neg, if_true, if_false, xI_cl, Int.toNat_natCast, iI_m, iI_a, iI_s, iI_1, xI_n, Option.bind_some, Int.natCast_add, Int.natCast_one, xI_zb, if_bI0, if_bI1, xI_rn, xI_ti, ea]
theorem mo_polish (ok : Ok st) (R : MoR h st) {i : Int} (hi : -2147483648 ≤ i ∧ i < 2147483648) : moC (f_X12_polish (iI i)) h (sPo st i) (oPo st i) ex02 := by
  have hv := ok.1.1
  have h8 := hv.1
  have ea := m_isLetter0 hv R.1.1 hi
  unfold sPo oPo
  by_cases c : 0 ≤ i ∧ i ≤ (st.1.1 1 : Int) - 1
  · obtain ⟨j, rfl⟩ : ∃ j : Nat, i = j := ⟨i.toNat, by omega⟩
    rw [Int.toNat_natCast]
    have hj : j < st.1.1 1 := by omega
    have ec := m_mayPolish hv R.1.1 hj
    rw [show bI (0 ≤ (j : Int) ∧ (j : Int) ≤ (st.1.1 1 : Int) - 1) = 1 from if_pos c] at ea
    by_cases d : st.1.2 6 j = 1 ∧ st.1.2 7 j < 3
    · rw [if_pos ⟨c, d⟩, if_pos c, if_pos d]
      rw [show bI (st.1.2 6 j = 1 ∧ st.1.2 7 j < 3) = 1 from if_pos d] at ec
      obtain ⟨h', e, M, C, z⟩ := mo_change (m1 := f_X12_polishes (iI (j : Int))) (v := poV st.1 j) (x := iI ((st.1.1 3 : Int) - cN (oth st.1 j) (st.1.1 3))) ok R poV_K (fun s' P => by
        obtain ⟨s2, e, P2⟩ := m_polishes hv hj P
        exact ⟨s2, e, P2, wr_X12_polishes e⟩)
      refine moC_ch ?_ M C z
      unfold f_X12_polish f_X12_polish_25
      rw [ea, Option.bind_some, if_neg (by decide), ec, Option.bind_some, if_neg (by decide), m_gB1, Option.bind_some]
      exact (if_neg (show ¬ (iI 1 : Int32) = 0 by decide)).trans e
    · rw [if_neg (fun z => d z.2), if_pos c, if_neg d]
      rw [show bI (st.1.2 6 j = 1 ∧ st.1.2 7 j < 3) = 0 from if_neg d] at ec
      refine moC_c (b := iI 0) (c := iI 2) ?_ R agr02b
      unfold f_X12_polish f_X12_polish_25
      simp (disch := omega) only [xI_le, xI_lt, xI_eq, xI_0, xI_ib, if_pos, if_neg, if_true, if_false, xI_cl, Int.toNat_natCast, iI_m, iI_a, iI_s, iI_1, xI_n, Option.bind_some, Int.natCast_add, Int.natCast_one, xI_zb, if_bI0, if_bI1, xI_rn, xI_ti, ea, ec, m_gB2]
  · rw [if_neg (fun z => c z.1), if_neg c]
    rw [show bI (0 ≤ i ∧ i ≤ (st.1.1 1 : Int) - 1) = 0 from if_neg c] at ea
    refine moC_c (b := iI 0) (c := iI 1) ?_ R agr02a
    unfold f_X12_polish f_X12_polish_25
    simp (disch := omega) only [xI_le, xI_lt, xI_eq, xI_0, xI_ib, if_pos, if_neg, if_true, if_false, xI_cl, Int.toNat_natCast, iI_m, iI_a, iI_s, iI_1, xI_n, Option.bind_some, Int.natCast_add, Int.natCast_one, xI_zb, if_bI0, if_bI1, xI_rn, xI_ti, ea, m_gB00]
end MPM
