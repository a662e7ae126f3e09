/-! undo, save, restore -/
section UND
variable {h : am_H} {st : St}
def setU (st : St) (m : Nat) : St := (st.1, st.2.1, (m, st.2.2.1.2), st.2.2.2)
theorem setU_ok (ok : Ok st) {m : Nat} (hm : m ≤ st.2.2.1.1) : Ok (setU st m) := ⟨ok.1, ok.2.1, ⟨Nat.le_trans hm ok.2.2.1.1, fun i hi => ok.2.2.1.2 i (Nat.lt_of_lt_of_le hi hm)⟩, ok.2.2.2⟩
theorem ClR.setU (R : ClR h st) {m : Nat} (hm : m ≤ st.2.2.1.1) : ClR (am_u h (.inl 1) 0 6 (iI m)) (setU st m) := by
  obtain ⟨r1, ⟨r2, r3⟩, ⟨r4, r5, r6, r7⟩, ⟨r8, r9⟩, ⟨r10, r11⟩, r12, r13⟩ := R
  have ep : ∀ k o, (am_u h (.inl 1) 0 6 (iI m)).1 (.inr k) o = h.1 (.inr k) o := fun k o => am_u_row (by simp)
  have eo : ∀ o, o ≠ 0 → (am_u h (.inl 1) 0 6 (iI m)).1 (.inl 1) o = h.1 (.inl 1) o := fun o ho => am_u_row (by simp; exact ho)
  exact ⟨r1.eq (ep 0), ⟨by rw [au_s, if_neg (by omega)]; exact r2, fun z => (r3 z).eq (ep 3)⟩, ⟨by rw [au_s, if_pos rfl]; rfl, r5, r6, fun i c hi => (r7 i c (Nat.lt_of_lt_of_le hi hm)).eq (ep _)⟩, ⟨by rw [eo 8 (by omega)]; exact r8, by rw [eo 9 (by omega)]; exact r9⟩, ⟨by rw [eo 8 (by omega)]; exact r10, by rw [eo 8 (by omega)]; exact r11⟩, by rw [eo 16 (by omega)]; exact r12, by rw [eo 17 (by omega)]; exact r13⟩
def sUn (st : St) : St := if 0 < st.2.2.1.1 then setPl (setU st (st.2.2.1.1 - 1)) (st.2.2.1.2 (st.2.2.1.1 - 1)) else st
def oUn (st : St) : Int32 := if 0 < st.2.2.1.1 then iI ((st.2.2.1.1 - 1 : Nat) : Int) else iI (-1)
theorem sUn_ok (ok : Ok st) : Ok (sUn st) := by
  unfold sUn
  split
  next c =>
    have hp := ok.2.2.1.2 (st.2.2.1.1 - 1) (by omega)
    exact setPl_ok (setU_ok ok (by omega)) hp.1 hp.2
  · exact ok
theorem cl_undo (ok : Ok st) (R : ClR h st) : ∃ h1, f_X11_undo h = some (oUn st, h1) ∧ ClR h1 (sUn st) ∧ MFr h h1 := by
  have o6 := ok.2.2.1.1
  have r4 : h.1 (.inl 1) 0 6 = iI st.2.2.1.1 := R.2.2.1.1
  unfold oUn sUn
  by_cases c : 0 < st.2.2.1.1
  · rw [if_pos c, if_pos c]
    have hp := ok.2.2.1.2 (st.2.2.1.1 - 1) (by omega)
    have hr := R.2.2.1.2.1 (st.2.2.1.1 - 1) (by omega)
    have R1 := R.setU (m := st.2.2.1.1 - 1) (by omega)
    have hP : cl_pl h (h.2.2 (st.2.2.1.1 - 1)) (st.2.2.1.2 (st.2.2.1.1 - 1)) := R.2.2.1.2.2.2 _ (by omega) (by omega)
    obtain ⟨h2, e2, P2⟩ := k_copyPl (k := 0) (k2 := h.2.2 (st.2.2.1.1 - 1)) (by omega) hp.1.1 (hP.eq (h' := am_u h (.inl 1) 0 6 (iI ((st.2.2.1.1 - 1 : Nat) : Int))) (fun o => am_u_row (by simp)))
    have w := wr_X5_copyFrom e2
    refine ⟨h2, ?_, R1.pl0 w (by simp) P2, ((Wr.u (L := [(.inl 1, 0)]) (by simp)).MF rfl).tr (w.MF rfl)⟩
    have e0 : h2.1 (.inl 1) 0 6 = iI ((st.2.2.1.1 - 1 : Nat) : Int) := by rw [w.1 _ _ (by simp), au_s, if_pos rfl]
    unfold f_X11_undo
    rw [show ((st.2.2.1.1 - 1 : Nat) : Int) = (st.2.2.1.1 : Int) - 1 from by omega] at *
    simp (disch := omega) only [xI_le, xI_lt, xI_eq, xI_0, xI_ib, if_pos, if_neg, if_true, if_false, xI_cl, Int.toNat_natCast, iI_m, iI_a, iI_s, iI_1, xI_n, Option.bind_some, Int.natCast_add, Int.natCast_one, xI_zb, if_bI0, if_bI1, xI_rn, xI_ti, r4, am_lt, au_s, show ((st.2.2.1.1 : Int) - 1).toNat = st.2.2.1.1 - 1 from by omega, show (am_u h (.inl 1) 0 6 (iI ((st.2.2.1.1 : Int) - 1))).2.2 = h.2.2 from rfl, e2, e0]
  · rw [if_neg c, if_neg c]
    refine ⟨h, ?_, R, MFr.rf⟩
    unfold f_X11_undo
    simp (disch := omega) only [xI_le, xI_lt, xI_eq, xI_0, xI_ib, if_pos, if_neg, if_true, if_false, xI_cl, Int.toNat_natCast, iI_m, iI_a, iI_s, iI_1, xI_n, Option.bind_some, Int.natCast_add, Int.natCast_one, xI_zb, if_bI0, if_bI1, xI_rn, xI_ti, r4]
def sSv (st : St) : St := (st.1, (true, st.1), st.2.2)
theorem sSv_ok (ok : Ok st) : Ok (sSv st) := ⟨ok.1, fun _ => ok.1, ok.2.2⟩
theorem vpL {f : Nat → Int64} {i j : Nat} {x : Int64} : vp_updL f i x j = if j = i then x else f j := rfl
def sRe (st : St) : St := if st.2.1.1 = true then (st.2.1.2, st.2.1, (0, st.2.2.1.2), st.2.2.2) else st
def oRe (st : St) : Int32 ⊕ Nat := if st.2.1.1 = true then .inl (iI (st.2.1.2.1 3)) else .inr 0
theorem sRe_ok (ok : Ok st) : Ok (sRe st) := by
  unfold sRe
  split
  next c => exact ⟨ok.2.1 c, ok.2.1, ⟨Nat.zero_le 6, fun i hi => absurd hi (Nat.not_lt_zero i)⟩, ok.2.2.2⟩
  · exact ok
end UND
