/-! changes: sharpen, setMargin -/
section CHG
variable {h : am_H} {st : St}
theorem cl_pl.g0 {h : am_H} {k : Nat} {v : pv_T} {x : Int} (R : cl_pl h k v) : cl_pl (am_u h (.inr k) 16 0 (iI x)) k (pu v 0 0 x) := by
  have e : ∀ o, o ≠ 16 → (am_u h (.inr k) 16 0 (iI x)).1 (.inr k) o = h.1 (.inr k) o := fun o ho => am_u_row (by simp; exact ho)
  unfold cl_pl cl_cu cl_na cl_ki cl_gr cl_sc at *
  rw [e 0 (by omega), e 1 (by omega), e 2 (by omega), e 3 (by omega), e 4 (by omega), e 5 (by omega), e 6 (by omega), e 7 (by omega), e 8 (by omega), e 9 (by omega), e 10 (by omega), e 11 (by omega), e 12 (by omega), e 13 (by omega), e 14 (by omega), e 15 (by omega), e 17 (by omega), e 18 (by omega), e 19 (by omega)]
  exact ⟨R.1, R.2.1, R.2.2.1, ⟨by rw [au_s, if_pos rfl]; rfl, by rw [au_s, if_neg (by omega)]; exact R.2.2.2.1.2.1, by rw [au_s, if_neg (by omega)]; exact R.2.2.2.1.2.2.1, by rw [au_s, if_neg (by omega)]; exact R.2.2.2.1.2.2.2⟩, R.2.2.2.2⟩
theorem cl_pl.m0 {h : am_H} {k : Nat} {v : pv_T} {x : Int} (R : cl_pl h k v) : cl_pl (am_u h (.inr k) 0 5 (iI x)) k (pu v 0 1 x) := by
  have e : ∀ o, o ≠ 0 → (am_u h (.inr k) 0 5 (iI x)).1 (.inr k) o = h.1 (.inr k) o := fun o ho => am_u_row (by simp; exact ho)
  unfold cl_pl cl_cu cl_na cl_ki cl_gr cl_sc at *
  rw [e 1 (by omega), e 2 (by omega), e 3 (by omega), e 4 (by omega), e 5 (by omega), e 6 (by omega), e 7 (by omega), e 8 (by omega), e 9 (by omega), e 10 (by omega), e 11 (by omega), e 12 (by omega), e 13 (by omega), e 14 (by omega), e 15 (by omega), e 16 (by omega), e 17 (by omega), e 18 (by omega), e 19 (by omega)]
  exact ⟨R.1, R.2.1, R.2.2.1, R.2.2.2.1, R.2.2.2.2.1, by rw [au_s, if_pos rfl]; rfl⟩
theorem pu_K {v : pv_T} {c i : Nat} {x : Int} (hc : c ≠ 14) : sameK v (pu v c i x) := ⟨rfl, fun q _ => by funext a; exact pu_o (fun z => hc z.symm)⟩
theorem pu0_A {v : pv_T} {j : Nat} {x : Int} (hv : pvA v) (hj : j = 0 ∨ j = 1) (hx : 0 ≤ x ∧ x ≤ 99) : pvA (pu v 0 j x) := by
  obtain ⟨⟨h1, h2, h3, h4, h5, h6, h7⟩, h9, h10⟩ := hv
  refine ⟨⟨h1, h2, h3, h4, h5, h6, ?_⟩, h9, h10⟩
  rcases hj with rfl | rfl
  · exact ⟨hx.1, hx.2, h7.2.2⟩
  · exact ⟨h7.1, h7.2.1, hx.1, hx.2⟩
/-! sharpen -/
def shV (v : pv_T) (n : Int) : Int := if 99 ≤ v.2 0 0 + n then 99 else v.2 0 0 + n
def sSh (st : St) (n : Int) : St := if 1 ≤ n ∧ n ≤ 99 then setPl (stK st) (pu st.1 0 0 (shV st.1 n)) else st
def oSh (st : St) (n : Int) : Int32 ⊕ Nat := if 1 ≤ n ∧ n ≤ 99 then .inl (iI (shV st.1 n)) else .inr 1
theorem sSh_ok (ok : Ok st) {n : Int} : Ok (sSh st n) := by
  have h7 := ok.1.1.2.2.2.2.2.2
  unfold sSh
  split
  · refine setPl_ok (stK_ok ok) (pu0_A ok.1 (Or.inl rfl) ?_) (pu_K (by omega))
    unfold shV
    split <;> omega
  · exact ok
theorem cl_sharpen (ok : Ok st) (R : ClR h st) {n : Int} (hn : -2147483648 ≤ n ∧ n < 2147483648) : clC (f_X11_sharpen (iI n)) h (sSh st n) (oSh st n) := by
  have h7 := ok.1.1.2.2.2.2.2.2
  have ec : f_X1_canSharpenBy (iI n) = some (iI (bI (1 ≤ n ∧ n ≤ 99))) := by
    unfold f_X1_canSharpenBy
    simp (disch := omega) only [xI_le, xI_lt, xI_eq, xI_0, xI_ib, if_pos, if_neg, if_true, if_false, xI_cl, Int.toNat_natCast, iI_m, iI_a, iI_s, iI_1, xI_n, Option.bind_some, Int.natCast_add, Int.natCast_one, xI_zb, if_bI0, if_bI1, xI_rn, xI_ti, k_isWithin (n := n) (a := 1) (b := 99) hn (by omega) (by omega)]
  unfold sSh oSh
  by_cases c : 1 ≤ n ∧ n ≤ 99
  · rw [if_pos c, if_pos c]
    rw [show bI (1 ≤ n ∧ n ≤ 99) = 1 from if_pos c] at ec
    obtain ⟨h1, e1, C1, M1⟩ := cl_keep ok R
    have P1 : cl_pl h1 0 st.1 := C1.1
    refine clC_ch C1 M1 (L := [(.inr 0, 16)]) (Wr.u (by simp)) (by simp) (P1.g0 (x := shV st.1 n)) ?_
    unfold f_X11_sharpen f_X1_sharpenBy shV
    simp (disch := omega) only [xI_le, xI_lt, xI_eq, xI_0, xI_ib, if_pos, if_neg, if_true, if_false, xI_cl, Int.toNat_natCast, iI_m, iI_a, iI_s, iI_1, xI_n, Option.bind_some, Int.natCast_add, Int.natCast_one, xI_zb, if_bI0, if_bI1, xI_rn, xI_ti, ec, e1, P1.2.2.2.1.1, k_min (a := 99) (b := st.1.2 0 0 + n) (by omega) (by omega), am_lt, au_s]
  · rw [if_neg c, if_neg c]
    rw [show bI (1 ≤ n ∧ n ≤ 99) = 0 from if_neg c] at ec
    refine clC_w (h1 := h) ?_ (Wr.rf (L := [])) rfl rfl R
    unfold f_X11_sharpen
    simp (disch := omega) only [xI_le, xI_lt, xI_eq, xI_0, xI_ib, if_pos, if_neg, if_true, if_false, xI_cl, Int.toNat_natCast, iI_m, iI_a, iI_s, iI_1, xI_n, Option.bind_some, Int.natCast_add, Int.natCast_one, xI_zb, if_bI0, if_bI1, xI_rn, xI_ti, ec]
end CHG
