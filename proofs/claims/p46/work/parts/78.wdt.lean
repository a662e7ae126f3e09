/-! setWidth -/
section WDT
variable {h : am_H} {st : St}
def sSw (st : St) (i n : Int) : St := if (0 ≤ i ∧ i ≤ 25) ∧ 1 ≤ n ∧ n ≤ 99 then setPl (stK st) (pu st.1 8 i.toNat n) else st
def oSw (st : St) (i n : Int) : Int32 ⊕ Nat := if (0 ≤ i ∧ i ≤ 25) ∧ 1 ≤ n ∧ n ≤ 99 then .inl (iI (st.1.2 8 i.toNat)) else .inr 1
theorem sSw_ok (ok : Ok st) {i n : Int} : Ok (sSw st i n) := by
  unfold sSw
  split
  next c => exact setPl_ok (stK_ok ok) (pu8_A ok.1 c.2) (pu_K (by omega))
  · exact ok
theorem cl_setWidth (ok : Ok st) (R : ClR h st) {i n : Int} (hi : -2147483648 ≤ i ∧ i < 2147483648) (hn : -2147483648 ≤ n ∧ n < 2147483648) : clC (f_X11_setWidth (iI i) (iI n)) h (sSw st i n) (oSw st i n) := by
  have ea := k_isPlace hi
  have ec := k_isWithin (n := n) (a := 1) (b := 99) hn (by omega) (by omega)
  unfold sSw oSw
  by_cases c : 0 ≤ i ∧ i ≤ 25
  · rw [show bI (0 ≤ i ∧ i ≤ 25) = 1 from if_pos c] at ea
    by_cases d : 1 ≤ n ∧ n ≤ 99
    · obtain ⟨j, rfl⟩ : ∃ j : Nat, i = j := ⟨i.toNat, by omega⟩
      rw [if_pos ⟨c, d⟩, if_pos ⟨c, d⟩, Int.toNat_natCast]
      rw [show bI (1 ≤ n ∧ n ≤ 99) = 1 from if_pos d] at ec
      obtain ⟨h1, e1, C1, M1⟩ := cl_keep ok R
      have P1 : cl_pl h1 0 st.1 := C1.1
      refine clC_ch C1 M1 (L := [(.inr 0, 10)]) (Wr.u (by simp)) (by simp) (P1.r10 (x := n) (j := j)) ?_
      unfold f_X11_setWidth
      simp (disch := omega) only [xI_le, xI_lt, xI_eq, xI_0, xI_ib, if_pos, if_neg, if_true, if_false, xI_cl, Int.toNat_natCast, iI_m, iI_a, iI_s, iI_1, xI_n, Option.bind_some, Int.natCast_add, Int.natCast_one, xI_zb, if_bI0, if_bI1, xI_rn, xI_ti, ea, ec, e1, P1.2.1.2.2 j (by omega), am_lt]
    · rw [if_neg (fun z => d z.2), if_neg (fun z => d z.2)]
      rw [show bI (1 ≤ n ∧ n ≤ 99) = 0 from if_neg d] at ec
      refine clC_w (h1 := h) ?_ (Wr.rf (L := [])) rfl rfl R
      unfold f_X11_setWidth
      simp (disch := omega) only [xI_le, xI_lt, xI_eq, xI_0, xI_ib, if_pos, if_neg, if_true, if_false, xI_cl, Int.toNat_natCast, iI_m, iI_a, iI_s, iI_1, xI_n, Option.bind_some, Int.natCast_add, Int.natCast_one, xI_zb, if_bI0, if_bI1, xI_rn, xI_ti, ea, ec]
  · rw [if_neg (fun z => c z.1), if_neg (fun z => c z.1)]
    rw [show bI (0 ≤ i ∧ i ≤ 25) = 0 from if_neg c] at ea
    refine clC_w (h1 := h) ?_ (Wr.rf (L := [])) rfl rfl R
    unfold f_X11_setWidth
    simp (disch := omega) only [xI_le, xI_lt, xI_eq, xI_0, xI_ib, if_pos, if_neg, if_true, if_false, xI_cl, Int.toNat_natCast, iI_m, iI_a, iI_s, iI_1, xI_n, Option.bind_some, Int.natCast_add, Int.natCast_one, xI_zb, if_bI0, if_bI1, xI_rn, xI_ti, ea]
end WDT
