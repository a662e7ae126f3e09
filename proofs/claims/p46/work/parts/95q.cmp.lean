/-! mend, polish: the methods -/
section MPM
variable {h : am_H} {st : St} {v : pv_T}
theorem meV_K {s : Nat} : sameK v (meV v s) := meV_D.K
theorem poV_K {l : Nat} : sameK v (poV v l) := poV_D.K
def sMe (st : St) (i : Int) : St := if (0 ≤ i ∧ i ≤ (st.1.1 3 : Int) - 1) ∧ st.1.2 7 (st.1.2 12 i.toNat).toNat < 3 then setPl (stK st) (meV st.1 i.toNat) else st
def oMe (st : St) (i : Int) : Int32 ⊕ Nat := if 0 ≤ i ∧ i ≤ (st.1.1 3 : Int) - 1 then (if st.1.2 7 (st.1.2 12 i.toNat).toNat < 3 then .inl (iI ((st.1.1 3 - 1 : Nat) : Int)) else .inr 0) else .inr 2
theorem sMe_ok (ok : Ok st) {i : Int} : Ok (sMe st i) := by
  unfold sMe
  split
  next c => exact setPl_ok (stK_ok ok) (meV_A ok.1 (by omega) c.2) meV_K
  · exact ok
theorem cl_mend (ok : Ok st) (R : ClR h st) {i : Int} (hi : -2147483648 ≤ i ∧ i < 2147483648) : clC (f_X11_mend (iI i)) h (sMe st i) (oMe st i) := by
  have hv := ok.1.1
  have h8 := hv.1
  have ea := k_hasScratch hv R.1.2.2.2.2.1 hi
  unfold sMe oMe
  by_cases c : 0 ≤ i ∧ i ≤ (st.1.1 3 : Int) - 1
  · obtain ⟨s, rfl⟩ : ∃ j : Nat, i = j := ⟨i.toNat, by omega⟩
    rw [Int.toNat_natCast]
    have hs : s < st.1.1 3 := by omega
    have g6 := hv.2.2.2.2.2.1 s hs
    obtain ⟨j, ej⟩ : ∃ j : Nat, st.1.2 12 s = j := ⟨(st.1.2 12 s).toNat, by omega⟩
    have ec := k_canMend hv hs ej R.1
    rw [show bI (0 ≤ (s : Int) ∧ (s : Int) ≤ (st.1.1 3 : Int) - 1) = 1 from if_pos c] at ea
    have em : meV st.1 s = dropS (pu st.1 7 j (st.1.2 7 j + 1)) s := by unfold meV; rw [ej, Int.toNat_natCast]
    rw [ej, Int.toNat_natCast, em]
    by_cases d : st.1.2 7 j < 3
    · rw [if_pos ⟨c, d⟩, if_pos c, if_pos d]
      rw [show bI (st.1.2 7 j < 3) = 1 from if_pos d] at ec
      obtain ⟨h1, e1, C1, M1⟩ := cl_keep ok R
      obtain ⟨h2, e2, P2⟩ := k_mendScratch hv hs ej (show cl_pl h1 0 st.1 from C1.1)
      refine clC_ch C1 M1 (wr_X5_mendScratch e2) (by simp) P2 ?_
      unfold f_X11_mend
      simp (disch := omega) only [xI_le, xI_lt, xI_eq, xI_0, xI_ib, if_pos, if_neg, if_true, if_false, xI_cl, Int.toNat_natCast, iI_m, iI_a, iI_s, iI_1, xI_n, Option.bind_some, Int.natCast_add, Int.natCast_one, xI_zb, if_bI0, if_bI1, xI_rn, xI_ti, ea, ec, e1, e2]
    · rw [if_neg (fun z => d z.2), if_pos c, if_neg d]
      rw [show bI (st.1.2 7 j < 3) = 0 from if_neg d] at ec
      refine clC_w (h1 := h) ?_ (Wr.rf (L := [])) rfl rfl R
      unfold f_X11_mend
      simp (disch := omega) only [xI_le, xI_lt, xI_eq, xI_0, xI_ib, if_pos, if_neg, if_true, if_false, xI_cl, Int.toNat_natCast, iI_m, iI_a, iI_s, iI_1, xI_n, Option.bind_some, Int.natCast_add, Int.natCast_one, xI_zb, if_bI0, if_bI1, xI_rn, xI_ti, ea, ec]
  · rw [if_neg (fun z => c z.1), if_neg c]
    rw [show bI (0 ≤ i ∧ i ≤ (st.1.1 3 : Int) - 1) = 0 from if_neg c] at ea
    refine clC_w (h1 := h) ?_ (Wr.rf (L := [])) rfl rfl R
    unfold f_X11_mend
    simp (disch := omega) only [xI_le, xI_lt, xI_eq, xI_0, xI_ib, if_pos, if_neg, if_true, if_false, xI_cl, Int.toNat_natCast, iI_m, iI_a, iI_s, iI_1, xI_n, Option.bind_some, Int.natCast_add, Int.natCast_one, xI_zb, if_bI0, if_bI1, xI_rn, xI_ti, ea]
def sPo (st : St) (i : Int) : St := if (0 ≤ i ∧ i ≤ (st.1.1 1 : Int) - 1) ∧ st.1.2 6 i.toNat = 1 ∧ st.1.2 7 i.toNat < 3 then setPl (stK st) (poV st.1 i.toNat) else st
def oPo (st : St) (i : Int) : Int32 ⊕ Nat := if 0 ≤ i ∧ i ≤ (st.1.1 1 : Int) - 1 then (if st.1.2 6 i.toNat = 1 ∧ st.1.2 7 i.toNat < 3 then .inl (iI ((st.1.1 3 : Int) - cN (oth st.1 i.toNat) (st.1.1 3))) else .inr 0) else .inr 2
theorem sPo_ok (ok : Ok st) {i : Int} : Ok (sPo st i) := by
  unfold sPo
  split
  next c => exact setPl_ok (stK_ok ok) (poV_A ok.1 (by omega) c.2.2) poV_K
  · exact ok
theorem cl_polish (ok : Ok st) (R : ClR h st) {i : Int} (hi : -2147483648 ≤ i ∧ i < 2147483648) : clC (f_X11_polish (iI i)) h (sPo st i) (oPo st i) := by
  have hv := ok.1.1
  have h8 := hv.1
  have ea := k_hasLetter hv R.1.2.1 hi
  unfold sPo oPo
  by_cases c : 0 ≤ i ∧ i ≤ (st.1.1 1 : Int) - 1
  · obtain ⟨j, rfl⟩ : ∃ j : Nat, i = j := ⟨i.toNat, by omega⟩
    rw [Int.toNat_natCast]
    have hj : j < st.1.1 1 := by omega
    have ec := k_canPolish hv hj R.1
    rw [show bI (0 ≤ (j : Int) ∧ (j : Int) ≤ (st.1.1 1 : Int) - 1) = 1 from if_pos c] at ea
    by_cases d : st.1.2 6 j = 1 ∧ st.1.2 7 j < 3
    · rw [if_pos ⟨c, d⟩, if_pos c, if_pos d]
      rw [show bI (st.1.2 6 j = 1 ∧ st.1.2 7 j < 3) = 1 from if_pos d] at ec
      obtain ⟨h1, e1, C1, M1⟩ := cl_keep ok R
      obtain ⟨h2, e2, P2⟩ := k_polishLetter hv hj (show cl_pl h1 0 st.1 from C1.1)
      refine clC_ch C1 M1 (wr_X5_polishLetter e2) (by simp) P2 ?_
      unfold f_X11_polish
      simp (disch := omega) only [xI_le, xI_lt, xI_eq, xI_0, xI_ib, if_pos, if_neg, if_true, if_false, xI_cl, Int.toNat_natCast, iI_m, iI_a, iI_s, iI_1, xI_n, Option.bind_some, Int.natCast_add, Int.natCast_one, xI_zb, if_bI0, if_bI1, xI_rn, xI_ti, ea, ec, e1, e2]
    · rw [if_neg (fun z => d z.2), if_pos c, if_neg d]
      rw [show bI (st.1.2 6 j = 1 ∧ st.1.2 7 j < 3) = 0 from if_neg d] at ec
      refine clC_w (h1 := h) ?_ (Wr.rf (L := [])) rfl rfl R
      unfold f_X11_polish
      simp (disch := omega) only [xI_le, xI_lt, xI_eq, xI_0, xI_ib, if_pos, if_neg, if_true, if_false, xI_cl, Int.toNat_natCast, iI_m, iI_a, iI_s, iI_1, xI_n, Option.bind_some, Int.natCast_add, Int.natCast_one, xI_zb, if_bI0, if_bI1, xI_rn, xI_ti, ea, ec]
  · rw [if_neg (fun z => c z.1), if_neg c]
    rw [show bI (0 ≤ i ∧ i ≤ (st.1.1 1 : Int) - 1) = 0 from if_neg c] at ea
    refine clC_w (h1 := h) ?_ (Wr.rf (L := [])) rfl rfl R
    unfold f_X11_polish
    simp (disch := omega) only [xI_le, xI_lt, xI_eq, xI_0, xI_ib, if_pos, if_neg, if_true, if_false, xI_cl, Int.toNat_natCast, iI_m, iI_a, iI_s, iI_1, xI_n, Option.bind_some, Int.natCast_add, Int.natCast_one, xI_zb, if_bI0, if_bI1, xI_rn, xI_ti, ea]
end MPM
