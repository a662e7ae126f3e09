/-! setRadius, setWidth -/
section RAD
variable {h : am_H} {st : St}
theorem pu1_A {v : pv_T} {j : Nat} {x : Int} (hv : pvA v) (hx : 1 ≤ x ∧ x ≤ 99) : pvA (pu v 1 j x) := by
  obtain ⟨⟨h1, h2, h3, h4, h5, h6, h7⟩, h9, h10⟩ := hv
  refine ⟨⟨h1, fun i hi => ?_, h3, h4, h5, h6, h7⟩, fun i hi => ?_, h10⟩
  · refine ⟨?_, ?_, (h2 i hi).2.2⟩
    · show 1 ≤ (if i = j then x else v.2 1 i)
      split
      · omega
      · exact (h2 i hi).1
    · show (if i = j then x else v.2 1 i) ≤ 199
      split
      · omega
      · exact (h2 i hi).2.1
  · show (if i = j then x else v.2 1 i) ≤ 99
    split
    · omega
    · exact h9 i hi
theorem pu8_A {v : pv_T} {j : Nat} {x : Int} (hv : pvA v) (hx : 1 ≤ x ∧ x ≤ 99) : pvA (pu v 8 j x) := by
  obtain ⟨⟨h1, h2, h3, h4, h5, h6, h7⟩, h9, h10⟩ := hv
  refine ⟨⟨h1, h2, h3, fun i hi => ?_, h5, h6, h7⟩, h9, h10⟩
  show 1 ≤ (if i = j then x else v.2 8 i) ∧ (if i = j then x else v.2 8 i) ≤ 99
  split
  · exact hx
  · exact h4 i hi
def sSr (st : St) (i n : Int) : St := if (0 ≤ i ∧ i ≤ (st.1.1 0 : Int) - 1) ∧ 1 ≤ n ∧ n ≤ 99 then setPl (stK st) (pu st.1 1 i.toNat n) else st
def oSr (st : St) (i n : Int) : Int32 ⊕ Nat := if 0 ≤ i ∧ i ≤ (st.1.1 0 : Int) - 1 then (if 1 ≤ n ∧ n ≤ 99 then .inl (iI (st.1.2 1 i.toNat)) else .inr 1) else .inr 2
theorem sSr_ok (ok : Ok st) {i n : Int} : Ok (sSr st i n) := by
  unfold sSr
  split
  next c => exact setPl_ok (stK_ok ok) (pu1_A ok.1 c.2) (pu_K (by omega))
  · exact ok
theorem cl_setRadius (ok : Ok st) (R : ClR h st) {i n : Int} (hi : -2147483648 ≤ i ∧ i < 2147483648) (hn : -2147483648 ≤ n ∧ n < 2147483648) : clC (f_X11_setRadius (iI i) (iI n)) h (sSr st i n) (oSr st i n) := by
  have hv := ok.1.1
  have h8 := hv.1
  have ea := k_hasArc hv R.1.1 hi
  have ec := k_isWithin (n := n) (a := 1) (b := 99) hn (by omega) (by omega)
  unfold sSr oSr
  by_cases c : 0 ≤ i ∧ i ≤ (st.1.1 0 : Int) - 1
  · by_cases d : 1 ≤ n ∧ n ≤ 99
    · obtain ⟨j, rfl⟩ : ∃ j : Nat, i = j := ⟨i.toNat, by omega⟩
      rw [if_pos ⟨c, d⟩, if_pos c, if_pos d, Int.toNat_natCast]
      rw [show bI (0 ≤ (j : Int) ∧ (j : Int) ≤ (st.1.1 0 : Int) - 1) = 1 from if_pos c] at ea
      rw [show bI (1 ≤ n ∧ n ≤ 99) = 1 from if_pos d] at ec
      obtain ⟨h1, e1, C1, M1⟩ := cl_keep ok R
      have P1 : cl_pl h1 0 st.1 := C1.1
      refine clC_ch C1 M1 (L := [(.inr 0, 2)]) (Wr.u (by simp)) (by simp) (P1.r2 (x := n) (j := j)) ?_
      unfold f_X11_setRadius
      simp (disch := omega) only [xI_le, xI_lt, xI_eq, xI_0, xI_ib, if_pos, if_neg, if_true, if_false, xI_cl, Int.toNat_natCast, iI_m, iI_a, iI_s, iI_1, xI_n, Option.bind_some, Int.natCast_add, Int.natCast_one, xI_zb, if_bI0, if_bI1, xI_rn, xI_ti, ea, ec, e1, (P1.1.2 j (by omega)).1, am_lt]
    · rw [if_neg (fun z => d z.2), if_pos c, if_neg d]
      rw [show bI (0 ≤ i ∧ i ≤ (st.1.1 0 : Int) - 1) = 1 from if_pos c] at ea
      rw [show bI (1 ≤ n ∧ n ≤ 99) = 0 from if_neg d] at ec
      refine clC_w (h1 := h) ?_ (Wr.rf (L := [])) rfl rfl R
      unfold f_X11_setRadius
      simp (disch := omega) only [xI_le, xI_lt, xI_eq, xI_0, xI_ib, if_pos, if_neg, if_true, if_false, xI_cl, Int.toNat_natCast, iI_m, iI_a, iI_s, iI_1, xI_n, Option.bind_some, Int.natCast_add, Int.natCast_one, xI_zb, if_bI0, if_bI1, xI_rn, xI_ti, ea, ec]
  · rw [if_neg (fun z => c z.1), if_neg c]
    rw [show bI (0 ≤ i ∧ i ≤ (st.1.1 0 : Int) - 1) = 0 from if_neg c] at ea
    refine clC_w (h1 := h) ?_ (Wr.rf (L := [])) rfl rfl R
    unfold f_X11_setRadius
    simp (disch := omega) only [xI_le, xI_lt, xI_eq, xI_0, xI_ib, if_pos, if_neg, if_true, if_false, xI_cl, Int.toNat_natCast, iI_m, iI_a, iI_s, iI_1, xI_n, Option.bind_some, Int.natCast_add, Int.natCast_one, xI_zb, if_bI0, if_bI1, xI_rn, xI_ti, ea]
end RAD
