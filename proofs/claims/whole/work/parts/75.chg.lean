/-! changes: sharpen, setMargin -/
section CHG
variable {h : am_H} {st : St}
theorem mo_change {m1 : am_H → Option (Int32 × am_H)} {v : pv_T} {x : Int32} (ok : Ok st) (R : MoR h st) (hk : sameK st.1 v) (ch : ∀ s, mo_pl s st.1 → ∃ s', m1 s = some (x, s') ∧ mo_pl s' v ∧ Wr [(.inl 0, 2)] s s') : ∃ h', ((f_X12_laysAside (am_u h (.inl 0) 0 0 (iI 0))).bind (fun a2 => (m1 a2).bind (fun a3 => (f_X12_kept a3.1 a3.2).bind (fun a4 => some ((a4.1, a4.2))))) : Option (Int32 × am_H)) = some (x, h') ∧ MoR h' (setPl (stK st) v) ∧ CFr h h' ∧ h'.1 (.inl 0) 0 0 = iI 0 := by
  obtain ⟨h1, e1, c1, w1⟩ := m_laysAside (am_u h (.inl 0) 0 0 (iI 0))
  have M1 : MoR h1 st := MoR.wr w1 rfl R.code
  obtain ⟨h2, e2, P2, w2⟩ := ch h1 M1.1.1
  have M2 := MoR.pl2 w2 P2 hk M1
  have R4 : mo_rw (h2.1 (.inl 0) 4) st.1 := by
    rw [w2.1 _ _ (by simp)]
    exact R.1.1.e408 ok.1.1 (fun j hj => by rw [c1 j hj, am_u_row (by simp)])
  obtain ⟨h3, e3, M3, C3, z3⟩ := mo_keep ok M2 R4
  refine ⟨h3, ?_, M3, CFr.code.tr ((w1.CF rfl).tr ((w2.CF rfl).tr C3)), ?_⟩
  · unfold f_X12_kept
    rw [e1, Option.bind_some, e2, Option.bind_some]
    show ((f_X12_keeps h2).bind _).bind _ = _
    rw [e3, Option.bind_some, Option.bind_some]
  · rw [z3, w2.1 _ _ (by simp), w1.1 _ _ (by simp), au_s, if_pos rfl]
theorem moC_ch {m : am_H → Option (Int32 × am_H)} {st' : St} {x : Int32} {f : Nat → Option Int32} {h' : am_H} (e : m h = some (x, h')) (M : MoR h' st') (C : CFr h h') (z : h'.1 (.inl 0) 0 0 = iI 0) : moC m h st' (.inl x) f := ⟨x, h', e, M, C, by rw [z]; exact agrv⟩
theorem cl_pl.g0 {h : am_H} {k : Nat} {v : pv_T} {x : Int} (R : cl_pl h k v) : cl_pl (am_u h (.inr k) 16 0 (iI x)) k (pu v 0 0 x) := by
  have e : ∀ o, o ≠ 16 → (am_u h (.inr k) 16 0 (iI x)).1 (.inr k) o = h.1 (.inr k) o := fun o ho => am_u_row (by simp; exact ho)
  unfold cl_pl cl_cu cl_na cl_ki cl_gr cl_sc at *
  rw [e 0 (by omega), e 1 (by omega), e 2 (by omega), e 3 (by omega), e 4 (by omega), e 5 (by omega), e 6 (by omega), e 7 (by omega), e 8 (by omega), e 9 (by omega), e 10 (by omega), e 11 (by omega), e 12 (by omega), e 13 (by omega), e 14 (by omega), e 15 (by omega), e 17 (by omega), e 18 (by omega), e 19 (by omega)]
  exact ⟨R.1, R.2.1, R.2.2.1, ⟨by rw [au_s, if_pos rfl]; rfl, by rw [au_s, if_neg (by omega)]; exact R.2.2.2.1.2.1, by rw [au_s, if_neg (by omega)]; exact R.2.2.2.1.2.2.1, by rw [au_s, if_neg (by omega)]; exact R.2.2.2.1.2.2.2⟩, R.2.2.2.2⟩
theorem cl_pl.m0 {h : am_H} {k : Nat} {v : pv_T} {x : Int} (R : cl_pl h k v) : cl_pl (am_u h (.inr k) 0 5 (iI x)) k (pu v 0 1 x) := by
  have e : ∀ o, o ≠ 0 → (am_u h (.inr k) 0 5 (iI x)).1 (.inr k) o = h.1 (.inr k) o := fun o ho => am_u_row (by simp; exact ho)
  unfold cl_pl cl_cu cl_na cl_ki cl_gr cl_sc at *
  rw [e 1 (by omega), e 2 (by omega), e 3 (by omega), e 4 (by omega), e 5 (by omega), e 6 (by omega), e 7 (by omega), e 8 (by omega), e 9 (by omega), e 10 (by omega), e 11 (by omega), e 12 (by omega), e 13 (by omega), e 14 (by omega), e 15 (by omega), e 16 (by omega), e 17 (by omega), e 18 (by omega), e 19 (by omega)]
  exact ⟨R.1, R.2.1, R.2.2.1, R.2.2.2.1, R.2.2.2.2.1, by rw [au_s, if_pos rfl]; rfl⟩
theorem mo_rw.u0 {f f' : Nat → Int32} {v : pv_T} {x : Int} {j : Nat} (hj : j = 0 ∨ j = 1) (e : ∀ i, i ≠ 3 + j → f' i = f i) (ex : f' (3 + j) = iI x) (R : mo_rw f v) : mo_rw f' (pu v 0 j x) := by
  obtain ⟨⟨r0, r1, r2, r3, r4, r5, r6, r7, r8⟩, ra, rl, rw', rk, rs⟩ := R
  refine ⟨⟨(e 0 (by omega)).trans r0, (e 1 (by omega)).trans r1, (e 2 (by omega)).trans r2, ?_, ?_, (e 5 (by omega)).trans (r5.trans ?_), (e 6 (by omega)).trans (r6.trans ?_), (e 7 (by omega)).trans (r7.trans ?_), (e 8 (by omega)).trans r8⟩, fun i hi c hc => ?_, fun i hi c hc => ?_, fun i hi => ?_, fun i hi c hc => ?_, fun i hi c hc => ?_⟩
  · rcases hj with rfl | rfl
    · exact ex.trans rfl
    · exact (e 3 (by omega)).trans r3
  · rcases hj with rfl | rfl
    · exact (e 4 (by omega)).trans r4
    · exact ex.trans rfl
  · rw [pu_i (by omega)]
  · rw [pu_i (by omega)]
  · rw [pu_i (by omega)]
  · rw [pu_o (by omega), e _ (by omega)]; exact ra i hi c hc
  · rw [pu_o (by omega), e _ (by omega)]; exact rl i hi c hc
  · rw [pu_o (by omega), e _ (by omega)]; exact rw' i hi
  · rw [pu_o (by omega), e _ (by omega)]; exact rk i hi c hc
  · rw [pu_o (by omega), e _ (by omega)]; exact rs i hi c hc
theorem pu_K {v : pv_T} {c i : Nat} {x : Int} (hc : c ≠ 14) : sameK v (pu v c i x) := ⟨rfl, fun q _ => by funext a; exact pu_o (fun z => hc z.symm)⟩
theorem pu0_A {v : pv_T} {j : Nat} {x : Int} (hv : pvA v) (hj : j = 0 ∨ j = 1) (hx : 0 ≤ x ∧ x ≤ 99) : pvA (pu v 0 j x) := by
  obtain ⟨⟨h1, h2, h3, h4, h5, h6, h7⟩, h9, h10⟩ := hv
  refine ⟨⟨h1, h2, h3, h4, h5, h6, ?_⟩, h9, h10⟩
  rcases hj with rfl | rfl
  · exact ⟨hx.1, hx.2, h7.2.2⟩
  · exact ⟨h7.1, h7.2.1, hx.1, hx.2⟩
/-! sharpen -/
def shV (v : pv_T) (n : Int) : Int := if 99 ≤ v.2 0 0 + n then 99 else v.2 0 0 + n
def sSh (st : St) (n : Int) : St := if 1 ≤ n ∧ n ≤ 99 then setPl (stK st) (pu st.1 0 0 (shV st.1 n)) else st
def oSh (st : St) (n : Int) : Int32 ⊕ Nat := if 1 ≤ n ∧ n ≤ 99 then .inl (iI (shV st.1 n)) else .inr 1
theorem sSh_ok (ok : Ok st) {n : Int} : Ok (sSh st n) := by
  have h7 := ok.1.1.2.2.2.2.2.2
  unfold sSh
  split
  · refine setPl_ok (stK_ok ok) (pu0_A ok.1 (Or.inl rfl) ?_) (pu_K (by omega))
    unfold shV
    split <;> omega
  · exact ok
theorem cl_sharpen (ok : Ok st) (R : ClR h st) {n : Int} (hn : -2147483648 ≤ n ∧ n < 2147483648) : clC (f_X11_sharpen (iI n)) h (sSh st n) (oSh st n) := by
  have h7 := ok.1.1.2.2.2.2.2.2
  have ec : f_X1_canSharpenBy (iI n) = some (iI (bI (1 ≤ n ∧ n ≤ 99))) := by
    unfold f_X1_canSharpenBy
    simp (disch := omega) only [xI_le, xI_lt, xI_eq, xI_0, xI_ib, if_pos, if_neg, if_true, if_false, xI_cl, Int.toNat_natCast, iI_m, iI_a, iI_s, iI_1, xI_n, Option.bind_some, Int.natCast_add, Int.natCast_one, xI_zb, if_bI0, if_bI1, xI_rn, xI_ti, k_isWithin (n := n) (a := 1) (b := 99) hn (by omega) (by omega)]
  unfold sSh oSh
  by_cases c : 1 ≤ n ∧ n ≤ 99
  · rw [if_pos c, if_pos c]
    rw [show bI (1 ≤ n ∧ n ≤ 99) = 1 from if_pos c] at ec
    obtain ⟨h1, e1, C1, M1⟩ := cl_keep ok R
    have P1 : cl_pl h1 0 st.1 := C1.1
    refine clC_ch C1 M1 (L := [(.inr 0, 16)]) (Wr.u (by simp)) (by simp) (P1.g0 (x := shV st.1 n)) ?_
    unfold f_X11_sharpen f_X1_sharpenBy shV
    simp (disch := omega) only [xI_le, xI_lt, xI_eq, xI_0, xI_ib, if_pos, if_neg, if_true, if_false, xI_cl, Int.toNat_natCast, iI_m, iI_a, iI_s, iI_1, xI_n, Option.bind_some, Int.natCast_add, Int.natCast_one, xI_zb, if_bI0, if_bI1, xI_rn, xI_ti, ec, e1, P1.2.2.2.1.1, k_min (a := 99) (b := st.1.2 0 0 + n) (by omega) (by omega), am_lt, au_s]
  · rw [if_neg c, if_neg c]
    rw [show bI (1 ≤ n ∧ n ≤ 99) = 0 from if_neg c] at ec
    refine clC_w (h1 := h) ?_ (Wr.rf (L := [])) rfl rfl R
    unfold f_X11_sharpen
    simp (disch := omega) only [xI_le, xI_lt, xI_eq, xI_0, xI_ib, if_pos, if_neg, if_true, if_false, xI_cl, Int.toNat_natCast, iI_m, iI_a, iI_s, iI_1, xI_n, Option.bind_some, Int.natCast_add, Int.natCast_one, xI_zb, if_bI0, if_bI1, xI_rn, xI_ti, ec]
theorem m_isWidth {n : Int} (hn : -2147483648 ≤ n ∧ n < 2147483648) : f_X12_isWidth (iI n) = some (iI (bI (1 ≤ n ∧ n ≤ 99))) := by
  have e : f_X12_isIn (iI n).toInt64 (1 : Int64) (99 : Int64) = some (iI (bI (1 ≤ n ∧ n ≤ 99))) := by
    rw [m_isIn, xL_i hn.1 hn.2]; rfl
  unfold f_X12_isWidth
  simp (disch := omega) only [xI_le, xI_lt, xI_eq, xI_0, xI_ib, if_pos, if_neg, if_true, if_false, xI_cl, Int.toNat_natCast, iI_m, iI_a, iI_s, iI_1, xI_n, Option.bind_some, Int.natCast_add, Int.natCast_one, xI_zb, if_bI0, if_bI1, xI_rn, xI_ti, e]
theorem mo_sharpen (ok : Ok st) (R : MoR h st) {n : Int} (hn : -2147483648 ≤ n ∧ n < 2147483648) : moC (f_X12_sharpen (iI n)) h (sSh st n) (oSh st n) ex1 := by
  have h7 := ok.1.1.2.2.2.2.2.2
  have ec := m_isWidth hn
  unfold sSh oSh
  by_cases c : 1 ≤ n ∧ n ≤ 99
  · rw [if_pos c, if_pos c]
    rw [show bI (1 ≤ n ∧ n ≤ 99) = 1 from if_pos c] at ec
    obtain ⟨h', e, M, C, z⟩ := mo_change (m1 := f_X12_sharpens (iI n)) (v := pu st.1 0 0 (shV st.1 n)) (x := iI (shV st.1 n)) ok R (pu_K (by omega)) (fun s P => by
      refine ⟨am_u s (.inl 0) 2 3 (iI (shV st.1 n)), ?_, mo_rw.u0 (j := 0) (Or.inl rfl) (fun i hi => by rw [au_s, if_neg hi]) (by rw [au_s, if_pos rfl]) P, Wr.u (by simp)⟩
      unfold f_X12_sharpens shV
      simp (disch := omega) only [xI_le, xI_lt, xI_eq, xI_0, xI_ib, if_pos, if_neg, if_true, if_false, xI_cl, Int.toNat_natCast, iI_m, iI_a, iI_s, iI_1, xI_n, Option.bind_some, Int.natCast_add, Int.natCast_one, xI_zb, if_bI0, if_bI1, xI_rn, xI_ti, show (3 : Int).toNat = 3 from rfl, P.1.2.2.2.1, m_lesser (a := 99) (b := st.1.2 0 0 + n) (by omega) (by omega), am_lt, au_s])
    refine moC_ch ?_ M C z
    unfold f_X12_sharpen
    rw [ec, Option.bind_some, m_goes1, Option.bind_some]
    exact (if_neg (show ¬ (iI 1 : Int32) = 0 by decide)).trans e
  · rw [if_neg c, if_neg c]
    rw [show bI (1 ≤ n ∧ n ≤ 99) = 0 from if_neg c] at ec
    refine moC_c (b := iI 0) (c := iI 1) ?_ R agr1
    unfold f_X12_sharpen
    simp (disch := omega) only [xI_le, xI_lt, xI_eq, xI_0, xI_ib, if_pos, if_neg, if_true, if_false, xI_cl, Int.toNat_natCast, iI_m, iI_a, iI_s, iI_1, xI_n, Option.bind_some, Int.natCast_add, Int.natCast_one, xI_zb, if_bI0, if_bI1, xI_rn, xI_ti, ec, m_goes0]
end CHG
