/-! setMargin, setRadius, setWidth -/
section SETS
variable {h : am_H} {st : St}
theorem cl_pl.r2 {h : am_H} {k : Nat} {v : pv_T} {x : Int} {j : Nat} (R : cl_pl h k v) : cl_pl (am_u h (.inr k) 2 j (iI x)) k (pu v 1 j x) := by
  have e : ∀ o, o ≠ 2 → (am_u h (.inr k) 2 j (iI x)).1 (.inr k) o = h.1 (.inr k) o := fun o ho => am_u_row (by simp; exact ho)
  unfold cl_pl cl_cu cl_na cl_ki cl_gr cl_sc at *
  rw [e 0 (by omega), e 1 (by omega), e 3 (by omega), e 4 (by omega), e 5 (by omega), e 6 (by omega), e 7 (by omega), e 8 (by omega), e 9 (by omega), e 10 (by omega), e 11 (by omega), e 12 (by omega), e 13 (by omega), e 14 (by omega), e 15 (by omega), e 16 (by omega), e 17 (by omega), e 18 (by omega), e 19 (by omega)]
  refine ⟨⟨R.1.1, fun i hi => ⟨?_, (R.1.2 i hi).2⟩⟩, R.2⟩
  rw [au_s]
  show _ = iI (if i = j then x else v.2 1 i)
  by_cases c : i = j
  · rw [if_pos c, if_pos c]
  · rw [if_neg c, if_neg c]; exact (R.1.2 i hi).1
theorem cl_pl.r10 {h : am_H} {k : Nat} {v : pv_T} {x : Int} {j : Nat} (R : cl_pl h k v) : cl_pl (am_u h (.inr k) 10 j (iI x)) k (pu v 8 j x) := by
  have e : ∀ o, o ≠ 10 → (am_u h (.inr k) 10 j (iI x)).1 (.inr k) o = h.1 (.inr k) o := fun o ho => am_u_row (by simp; exact ho)
  unfold cl_pl cl_cu cl_na cl_ki cl_gr cl_sc at *
  rw [e 0 (by omega), e 1 (by omega), e 2 (by omega), e 3 (by omega), e 4 (by omega), e 5 (by omega), e 6 (by omega), e 7 (by omega), e 8 (by omega), e 9 (by omega), e 11 (by omega), e 12 (by omega), e 13 (by omega), e 14 (by omega), e 15 (by omega), e 16 (by omega), e 17 (by omega), e 18 (by omega), e 19 (by omega)]
  refine ⟨R.1, ⟨R.2.1.1, R.2.1.2.1, fun i hi => ?_⟩, R.2.2⟩
  rw [au_s]
  show _ = iI (if i = j then x else v.2 8 i)
  by_cases c : i = j
  · rw [if_pos c, if_pos c]
  · rw [if_neg c, if_neg c]; exact R.2.1.2.2 i hi
def sSm (st : St) (n : Int) : St := if 0 ≤ n ∧ n ≤ 99 then setPl (stK st) (pu st.1 0 1 n) else st
def oSm (st : St) (n : Int) : Int32 ⊕ Nat := if 0 ≤ n ∧ n ≤ 99 then .inl (iI (st.1.2 0 1)) else .inr 1
theorem sSm_ok (ok : Ok st) {n : Int} : Ok (sSm st n) := by
  unfold sSm
  split
  next c => exact setPl_ok (stK_ok ok) (pu0_A ok.1 (Or.inr rfl) c) (pu_K (by omega))
  · exact ok
theorem cl_setMargin (ok : Ok st) (R : ClR h st) {n : Int} (hn : -2147483648 ≤ n ∧ n < 2147483648) : clC (f_X11_setMargin (iI n)) h (sSm st n) (oSm st n) := by
  have ec : f_X5_canHaveMargin (iI n) = some (iI (bI (0 ≤ n ∧ n ≤ 99))) := by
    unfold f_X5_canHaveMargin
    simp (disch := omega) only [xI_le, xI_lt, xI_eq, xI_0, xI_ib, if_pos, if_neg, if_true, if_false, xI_cl, Int.toNat_natCast, iI_m, iI_a, iI_s, iI_1, xI_n, Option.bind_some, Int.natCast_add, Int.natCast_one, xI_zb, if_bI0, if_bI1, xI_rn, xI_ti, k_isWithin (n := n) (a := 0) (b := 99) hn (by omega) (by omega)]
  unfold sSm oSm
  by_cases c : 0 ≤ n ∧ n ≤ 99
  · rw [if_pos c, if_pos c]
    rw [show bI (0 ≤ n ∧ n ≤ 99) = 1 from if_pos c] at ec
    obtain ⟨h1, e1, C1, M1⟩ := cl_keep ok R
    have P1 : cl_pl h1 0 st.1 := C1.1
    refine clC_ch C1 M1 (L := [(.inr 0, 0)]) (Wr.u (by simp)) (by simp) (P1.m0 (x := n)) ?_
    unfold f_X11_setMargin
    simp (disch := omega) only [xI_le, xI_lt, xI_eq, xI_0, xI_ib, if_pos, if_neg, if_true, if_false, xI_cl, Int.toNat_natCast, iI_m, iI_a, iI_s, iI_1, xI_n, Option.bind_some, Int.natCast_add, Int.natCast_one, xI_zb, if_bI0, if_bI1, xI_rn, xI_ti, ec, e1, P1.2.2.2.2.2, am_lt]
  · rw [if_neg c, if_neg c]
    rw [show bI (0 ≤ n ∧ n ≤ 99) = 0 from if_neg c] at ec
    refine clC_w (h1 := h) ?_ (Wr.rf (L := [])) rfl rfl R
    unfold f_X11_setMargin
    simp (disch := omega) only [xI_le, xI_lt, xI_eq, xI_0, xI_ib, if_pos, if_neg, if_true, if_false, xI_cl, Int.toNat_natCast, iI_m, iI_a, iI_s, iI_1, xI_n, Option.bind_some, Int.natCast_add, Int.natCast_one, xI_zb, if_bI0, if_bI1, xI_rn, xI_ti, ec]
end SETS
