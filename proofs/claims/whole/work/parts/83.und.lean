/-! undo, save, restore -/
section UND
variable {h : am_H} {st : St}
def setU (st : St) (m : Nat) : St := (st.1, st.2.1, (m, st.2.2.1.2), st.2.2.2)
theorem setU_ok (ok : Ok st) {m : Nat} (hm : m ≤ st.2.2.1.1) : Ok (setU st m) := ⟨ok.1, ok.2.1, ⟨Nat.le_trans hm ok.2.2.1.1, fun i hi => ok.2.2.1.2 i (Nat.lt_of_lt_of_le hi hm)⟩, ok.2.2.2⟩
theorem ClR.setU (R : ClR h st) {m : Nat} (hm : m ≤ st.2.2.1.1) : ClR (am_u h (.inl 1) 0 6 (iI m)) (setU st m) := by
  obtain ⟨r1, ⟨r2, r3⟩, ⟨r4, r5, r6, r7⟩, ⟨r8, r9⟩, ⟨r10, r11⟩, r12, r13⟩ := R
  have ep : ∀ k o, (am_u h (.inl 1) 0 6 (iI m)).1 (.inr k) o = h.1 (.inr k) o := fun k o => am_u_row (by simp)
  have eo : ∀ o, o ≠ 0 → (am_u h (.inl 1) 0 6 (iI m)).1 (.inl 1) o = h.1 (.inl 1) o := fun o ho => am_u_row (by simp; exact ho)
  exact ⟨r1.eq (ep 0), ⟨by rw [au_s, if_neg (by omega)]; exact r2, fun z => (r3 z).eq (ep 3)⟩, ⟨by rw [au_s, if_pos rfl]; rfl, r5, r6, fun i c hi => (r7 i c (Nat.lt_of_lt_of_le hi hm)).eq (ep _)⟩, ⟨by rw [eo 8 (by omega)]; exact r8, by rw [eo 9 (by omega)]; exact r9⟩, ⟨by rw [eo 8 (by omega)]; exact r10, by rw [eo 8 (by omega)]; exact r11⟩, by rw [eo 16 (by omega)]; exact r12, by rw [eo 17 (by omega)]; exact r13⟩
theorem MoR.setU (R : MoR h st) {m : Nat} (hm : m ≤ st.2.2.1.1) : MoR (am_u h (.inl 0) 0 21 (iI m)) (setU st m) := by
  have ko : ∀ o, o ≠ 0 → (am_u h (.inl 0) 0 21 (iI m)).1 (.inl 0) o = h.1 (.inl 0) o := fun o ho => am_u_row (fun e => ho (by cases e; rfl))
  have k0 : ∀ j, j ≠ 21 → (am_u h (.inl 0) 0 21 (iI m)).1 (.inl 0) 0 j = h.1 (.inl 0) 0 j := fun j hj => by rw [au_s, if_neg hj]
  obtain ⟨r1, r2, ⟨r3, r4⟩, r5, r6, r7⟩ := R
  unfold mo_pl mo_nm at *
  refine ⟨?_, ?_, ⟨by rw [au_s, if_pos rfl]; rfl, fun i hi => ?_⟩, ?_, ?_, ?_⟩
  · unfold mo_pl mo_nm; rw [ko 2 (by omega)]; exact r1
  · unfold mo_nm; rw [k0 22 (by omega), ko 3 (by omega)]; exact r2
  · rw [ko 6 (by omega)]; exact r4 i (Nat.lt_of_lt_of_le hi hm)
  · rw [k0 2 (by omega), ko 1 (by omega)]; exact r5
  · rw [k0 10 (by omega), k0 11 (by omega)]; exact r6
  · rw [k0 36 (by omega), k0 35 (by omega), ko 17 (by omega)]; exact r7
def sUn (st : St) : St := if 0 < st.2.2.1.1 then setPl (setU st (st.2.2.1.1 - 1)) (st.2.2.1.2 (st.2.2.1.1 - 1)) else st
def oUn (st : St) : Int32 := if 0 < st.2.2.1.1 then iI ((st.2.2.1.1 - 1 : Nat) : Int) else iI (-1)
theorem sUn_ok (ok : Ok st) : Ok (sUn st) := by
  unfold sUn
  split
  next c =>
    have hp := ok.2.2.1.2 (st.2.2.1.1 - 1) (by omega)
    exact setPl_ok (setU_ok ok (by omega)) hp.1 hp.2
  · exact ok
theorem cl_undo (ok : Ok st) (R : ClR h st) : ∃ h1, f_X11_undo h = some (oUn st, h1) ∧ ClR h1 (sUn st) ∧ MFr h h1 := by
  have o6 := ok.2.2.1.1
  have r4 : h.1 (.inl 1) 0 6 = iI st.2.2.1.1 := R.2.2.1.1
  unfold oUn sUn
  by_cases c : 0 < st.2.2.1.1
  · rw [if_pos c, if_pos c]
    have hp := ok.2.2.1.2 (st.2.2.1.1 - 1) (by omega)
    have hr := R.2.2.1.2.1 (st.2.2.1.1 - 1) (by omega)
    have R1 := R.setU (m := st.2.2.1.1 - 1) (by omega)
    have hP : cl_pl h (h.2.2 (st.2.2.1.1 - 1)) (st.2.2.1.2 (st.2.2.1.1 - 1)) := R.2.2.1.2.2.2 _ (by omega) (by omega)
    obtain ⟨h2, e2, P2⟩ := k_copyPl (k := 0) (k2 := h.2.2 (st.2.2.1.1 - 1)) (by omega) hp.1.1 (hP.eq (h' := am_u h (.inl 1) 0 6 (iI ((st.2.2.1.1 - 1 : Nat) : Int))) (fun o => am_u_row (by simp)))
    have w := wr_X5_copyFrom e2
    refine ⟨h2, ?_, R1.pl0 w (by simp) P2, ((Wr.u (L := [(.inl 1, 0)]) (by simp)).MF rfl).tr (w.MF rfl)⟩
    have e0 : h2.1 (.inl 1) 0 6 = iI ((st.2.2.1.1 - 1 : Nat) : Int) := by rw [w.1 _ _ (by simp), au_s, if_pos rfl]
    unfold f_X11_undo
    rw [show ((st.2.2.1.1 - 1 : Nat) : Int) = (st.2.2.1.1 : Int) - 1 from by omega] at *
    simp (disch := omega) only [xI_le, xI_lt, xI_eq, xI_0, xI_ib, if_pos, if_neg, if_true, if_false, xI_cl, Int.toNat_natCast, iI_m, iI_a, iI_s, iI_1, xI_n, Option.bind_some, Int.natCast_add, Int.natCast_one, xI_zb, if_bI0, if_bI1, xI_rn, xI_ti, r4, am_lt, au_s, show ((st.2.2.1.1 : Int) - 1).toNat = st.2.2.1.1 - 1 from by omega, show (am_u h (.inl 1) 0 6 (iI ((st.2.2.1.1 : Int) - 1))).2.2 = h.2.2 from rfl, e2, e0]
  · rw [if_neg c, if_neg c]
    refine ⟨h, ?_, R, MFr.rf⟩
    unfold f_X11_undo
    simp (disch := omega) only [xI_le, xI_lt, xI_eq, xI_0, xI_ib, if_pos, if_neg, if_true, if_false, xI_cl, Int.toNat_natCast, iI_m, iI_a, iI_s, iI_1, xI_n, Option.bind_some, Int.natCast_add, Int.natCast_one, xI_zb, if_bI0, if_bI1, xI_rn, xI_ti, r4]
theorem mo_undo (ok : Ok st) (R : MoR h st) : ∃ h3, f_X12_undo h = some (oUn st, h3) ∧ MoR h3 (sUn st) ∧ CFr h h3 := by
  have o6 := ok.2.2.1.1
  have r4 : h.1 (.inl 0) 0 21 = iI st.2.2.1.1 := R.2.2.1.1
  unfold oUn sUn
  by_cases c : 0 < st.2.2.1.1
  · rw [if_pos c, if_pos c]
    have hp := ok.2.2.1.2 (st.2.2.1.1 - 1) (by omega)
    have R1 := R.code (x := iI 0)
    have R2 := R1.setU (m := st.2.2.1.1 - 1) (by omega)
    obtain ⟨h2, e2, p2, -⟩ := m_copiesRow (h := am_u (am_u h (.inl 0) 0 0 (iI 0)) (.inl 0) 0 21 (iI ((st.2.2.1.1 - 1 : Nat) : Int))) (o0 := 6) (n0 := 2448) (o2 := 2) (n2 := 408) (a := 408 * (st.2.2.1.1 - 1)) (b := 0) (by omega) (by omega) (by omega) (by omega) (by omega)
    have w := wr_X12_copiesRow e2
    have P : mo_pl h2 (st.2.2.1.2 (st.2.2.1.1 - 1)) := by
      have := R2.2.2.1.2 (st.2.2.1.1 - 1)
      have q := R.2.2.1.2 (st.2.2.1.1 - 1) (by omega)
      refine q.e408 hp.1.1 (fun j hj => ?_)
      have := p2 j hj
      rw [Nat.zero_add] at this
      rw [this, am_u_row (by simp), am_u_row (by simp)]
    refine ⟨h2, ?_, R2.pl2 (w.mono (by simp)) P hp.2, CFr.code.tr (((Wr.u (L := [(.inl 0, 0)]) (by simp)).CF rfl).tr (w.CF rfl))⟩
    have e0 : h2.1 (.inl 0) 0 21 = iI ((st.2.2.1.1 - 1 : Nat) : Int) := by rw [w.1 _ _ (by simp), au_s, if_pos rfl]
    have e2' : f_X12_copiesRow 6 2448 (iI (408 * ((st.2.2.1.1 : Int) - 1))) 2 408 (iI 0) (am_u (am_u h (.inl 0) 0 0 (iI 0)) (.inl 0) 0 21 (iI ((st.2.2.1.1 : Int) - 1))) = some h2 := by
      rw [show 408 * ((st.2.2.1.1 : Int) - 1) = ((408 * (st.2.2.1.1 - 1) : Nat) : Int) by omega, show (st.2.2.1.1 : Int) - 1 = ((st.2.2.1.1 - 1 : Nat) : Int) by omega]
      exact e2
    unfold f_X12_undo
    rw [show ((st.2.2.1.1 - 1 : Nat) : Int) = (st.2.2.1.1 : Int) - 1 from by omega] at *
    simp (disch := omega) only [xI_le, xI_lt, xI_eq, xI_0, xI_ib, if_pos, if_neg, if_true, if_false, xI_cl, Int.toNat_natCast, iI_m, iI_a, iI_s, iI_1, xI_n, Option.bind_some, Int.natCast_add, Int.natCast_one, xI_zb, if_bI0, if_bI1, xI_rn, xI_ti, r4, am_lt, au_s, e2', e0]
  · rw [if_neg c, if_neg c]
    refine ⟨am_u h (.inl 0) 0 0 (iI 0), ?_, R.code, CFr.code⟩
    unfold f_X12_undo
    simp (disch := omega) only [xI_le, xI_lt, xI_eq, xI_0, xI_ib, if_pos, if_neg, if_true, if_false, xI_cl, Int.toNat_natCast, iI_m, iI_a, iI_s, iI_1, xI_n, Option.bind_some, Int.natCast_add, Int.natCast_one, xI_zb, if_bI0, if_bI1, xI_rn, xI_ti, am_lt, au_s, r4]
def sSv (st : St) : St := (st.1, (true, st.1), st.2.2)
theorem sSv_ok (ok : Ok st) : Ok (sSv st) := ⟨ok.1, fun _ => ok.1, ok.2.2⟩
theorem cl_save (ok : Ok st) (R : ClR h st) : ∃ h1, f_X11_save h = some (iI (st.1.1 3), h1) ∧ ClR h1 (sSv st) ∧ MFr h h1 := by
  obtain ⟨h2, e2, P2⟩ := k_copyPl (k := 3) (k2 := 0) (by omega) ok.1.1 R.1
  have w := wr_X5_copyFrom e2
  have e17 : h2.1 (.inr 0) 17 2 = iI (st.1.1 3) := by rw [w.1 _ _ (by simp)]; exact R.1.2.2.2.2.1.1
  have ek : ∀ k, k ≠ 3 → ∀ o, (am_u h2 (.inl 1) 0 4 (iI 1)).1 (.inr k) o = h.1 (.inr k) o := fun k hk o => by rw [am_u_row (by simp), w.P (k := k) (by simp; exact fun z => hk z.symm) o]
  have e0 : ∀ j, j ≠ 4 → (am_u h2 (.inl 1) 0 4 (iI 1)).1 (.inl 1) 0 j = h.1 (.inl 1) 0 j := fun j hj => by rw [au_s, if_neg hj, w.1 _ _ (by simp)]
  have eo : ∀ o, o ≠ 0 → (am_u h2 (.inl 1) 0 4 (iI 1)).1 (.inl 1) o = h.1 (.inl 1) o := fun o ho => by rw [am_u_row (by simp; exact ho), w.1 _ _ (by simp)]
  refine ⟨am_u h2 (.inl 1) 0 4 (iI 1), ?_, ?_, (w.MF rfl).tr ((Wr.u (L := [(.inl 1, 0)]) (by simp)).MF rfl)⟩
  · unfold f_X11_save
    simp (disch := omega) only [xI_le, xI_lt, xI_eq, xI_0, xI_ib, if_pos, if_neg, if_true, if_false, xI_cl, Int.toNat_natCast, iI_m, iI_a, iI_s, iI_1, xI_n, Option.bind_some, Int.natCast_add, Int.natCast_one, xI_zb, if_bI0, if_bI1, xI_rn, xI_ti, e2, am_lt, am_u_row (show ((.inr 0 : am_G), 17) ≠ (.inl 1, 0) by simp), e17]
  · obtain ⟨r1, ⟨r2, r3⟩, ⟨r4, r5, r6, r7⟩, ⟨r8, r9⟩, ⟨r10, r11⟩, r12, r13⟩ := R
    refine ⟨r1.eq (ek 0 (by omega)), ⟨by rw [au_s, if_pos rfl]; rfl, fun _ => P2.eq (fun o => am_u_row (by simp))⟩, ⟨by rw [e0 6 (by omega)]; exact r4, ?_, ?_, fun i c hi => ?_⟩, ⟨by rw [eo 8 (by omega)]; exact r8, by rw [eo 9 (by omega)]; exact r9⟩, ⟨by rw [eo 8 (by omega)]; exact r10, by rw [eo 8 (by omega)]; exact r11⟩, by rw [eo 16 (by omega)]; exact r12, by rw [eo 17 (by omega)]; exact r13⟩
    · show ∀ i, i < 6 → 4 ≤ h2.2.2 i ∧ h2.2.2 i < 10
      rw [w.2.2]; exact r5
    · show ∀ i j, i < 6 → j < 6 → h2.2.2 i = h2.2.2 j → i = j
      rw [w.2.2]; exact r6
    · show cl_pl _ (h2.2.2 i) _
      rw [w.2.2]
      exact (r7 i c hi).eq (ek _ (by have := (r5 i c).1; omega))
theorem vpL {f : Nat → Int64} {i j : Nat} {x : Int64} : vp_updL f i x j = if j = i then x else f j := rfl
theorem m_copiesNames {h : am_H} {o0 o1 : Nat} (ho : o0 ≠ o1) : ∃ h', f_X12_copiesNames o0 6 o1 6 h = some h' ∧ ∀ q, q < 6 → h'.2.1 (.inl 0) o1 q = h.2.1 (.inl 0) o0 q := by
  obtain ⟨s, e1, p1, p2⟩ := ch_rel (fun i s => f_X12_copiesNames_2 o0 6 o1 6 (iI i) s) (fun i s => (∀ q, q < i → s.2.1 (.inl 0) o1 q = h.2.1 (.inl 0) o0 q) ∧ s.2.1 (.inl 0) o0 = h.2.1 (.inl 0) o0) (n := 6) (fun i s hi hs => by
    obtain ⟨p1, p2⟩ := hs
    refine ⟨am_ul s (.inl 0) o1 i (h.2.1 (.inl 0) o0 i), ?_, fun q hq => ?_, ?_⟩
    · show f_X12_copiesNames_2 _ _ _ _ _ _ = f_X12_copiesNames_2 _ _ _ _ _ _
      rw [e_X12_copiesNames_2]
      simp (disch := omega) only [xI_le, xI_lt, xI_eq, xI_0, xI_ib, if_pos, if_neg, if_true, if_false, xI_cl, Int.toNat_natCast, iI_m, iI_a, iI_s, iI_1, xI_n, Option.bind_some, Int.natCast_add, Int.natCast_one, xI_zb, if_bI0, if_bI1, xI_rn, xI_ti, am_lt, p2]
    · rw [am_ul_self, vpL]
      by_cases c : q = i
      · rw [if_pos c, c]
      · rw [if_neg c]; exact p1 q (by omega)
    · rw [am_ul_row (by simp; exact ho)]; exact p2) (s0 := h) ⟨fun q hq => absurd hq (Nat.not_lt_zero q), rfl⟩
  refine ⟨s, ?_, p1⟩
  unfold f_X12_copiesNames
  refine Eq.trans e1 ?_
  show f_X12_copiesNames_2 _ _ _ _ _ _ = _
  rw [e_X12_copiesNames_2]
  simp (disch := omega) only [xI_le, xI_lt, xI_eq, xI_0, xI_ib, if_pos, if_neg, if_true, if_false, xI_cl, Int.toNat_natCast, iI_m, iI_a, iI_s, iI_1, xI_n, Option.bind_some, Int.natCast_add, Int.natCast_one, xI_zb, if_bI0, if_bI1, xI_rn, xI_ti]
theorem mo_save (ok : Ok st) (R : MoR h st) : ∃ h3, f_X12_save h = some (iI (st.1.1 3), h3) ∧ MoR h3 (sSv st) ∧ CFr h h3 := by
  obtain ⟨h1, e1, p1, -⟩ := m_copiesRow (h := am_u h (.inl 0) 0 0 (iI 0)) (o0 := 2) (n0 := 408) (o2 := 3) (n2 := 408) (a := 0) (b := 0) (by omega) (by omega) (by omega) (by omega) (by omega)
  have w1 := wr_X12_copiesRow e1
  obtain ⟨h2, e2, p2⟩ := m_copiesNames (h := h1) (o0 := 7) (o1 := 8) (by omega)
  have w2 := wr_X12_copiesNames e2
  have k0 : ∀ j, j ≠ 0 → j ≠ 22 → (am_u h2 (.inl 0) 0 22 (iI 1)).1 (.inl 0) 0 j = h.1 (.inl 0) 0 j := fun j h0 h22 => by rw [au_s, if_neg h22, w2.1 _ _ (by simp), w1.1 _ _ (by simp), au_s, if_neg h0]
  have ko : ∀ o, o ≠ 0 → o ≠ 3 → o ≠ 8 → (am_u h2 (.inl 0) 0 22 (iI 1)).1 (.inl 0) o = h.1 (.inl 0) o := fun o h0 h3 h8 => by rw [am_u_row (by simp; exact h0), w2.1 _ _ (by simp; exact h8), w1.1 _ _ (by simp; exact h3), am_u_row (by simp; exact h0)]
  have kl : ∀ o, o ≠ 3 → o ≠ 8 → (am_u h2 (.inl 0) 0 22 (iI 1)).2.1 (.inl 0) o = h.2.1 (.inl 0) o := fun o h3 h8 => by
    show h2.2.1 (.inl 0) o = _
    rw [w2.2.1 _ _ (by simp; exact h8), w1.2.1 _ _ (by simp; exact h3)]
    rfl
  have e8 : h2.1 (.inl 0) 2 8 = iI (st.1.1 3) := by
    rw [w2.1 _ _ (by simp), w1.1 _ _ (by simp), am_u_row (by simp)]
    exact R.1.1.1.2.2.2.2.2.2.2.2
  refine ⟨am_u h2 (.inl 0) 0 22 (iI 1), ?_, ?_, CFr.code.tr ((w1.CF rfl).tr ((w2.CF rfl).tr ((Wr.u (L := [(.inl 0, 0)]) (by simp)).CF rfl)))⟩
  · unfold f_X12_save
    have e1' : f_X12_copiesRow 2 408 (iI 0) 3 408 (iI 0) (am_u h (.inl 0) 0 0 (iI 0)) = some h1 := e1
    simp (disch := omega) only [xI_le, xI_lt, xI_eq, xI_0, xI_ib, if_pos, if_neg, if_true, if_false, xI_cl, Int.toNat_natCast, iI_m, iI_a, iI_s, iI_1, xI_n, Option.bind_some, Int.natCast_add, Int.natCast_one, xI_zb, if_bI0, if_bI1, xI_rn, xI_ti, am_lt, e1', e2, show (8 : Int).toNat = 8 from rfl, am_u_row (show ((.inl 0 : am_G), 2) ≠ (.inl 0, 0) by simp), e8]
  · obtain ⟨⟨r1, r1n⟩, r2, ⟨r3, r4⟩, r5, r6, r7⟩ := R
    unfold mo_pl mo_nm at *
    refine ⟨?_, ⟨by rw [au_s, if_pos rfl]; rfl, fun _ => ⟨?_, ?_⟩⟩, ?_, ?_, ?_, ?_⟩
    · unfold mo_pl mo_nm; rw [ko 2 (by omega) (by omega) (by omega), kl 7 (by omega) (by omega)]; exact ⟨r1, r1n⟩
    · refine r1.e408 ok.1.1 (fun j hj => ?_)
      have := p1 j hj
      rw [Nat.zero_add] at this
      rw [am_u_row (by simp), w2.1 _ _ (by simp), this, am_u_row (by simp)]
    · intro q hq
      have hq' : q < st.1.1 2 := hq
      have h6 := ok.1.1.1.2.2.1
      show h2.2.1 (.inl 0) 8 q = _
      rw [p2 q (by omega), w1.2.1 _ _ (by simp)]
      exact r1n q hq
    · unfold sSv; rw [k0 21 (by omega) (by omega), ko 6 (by omega) (by omega) (by omega)]; exact ⟨r3, r4⟩
    · rw [k0 2 (by omega) (by omega), ko 1 (by omega) (by omega) (by omega)]; exact r5
    · rw [k0 10 (by omega) (by omega), k0 11 (by omega) (by omega)]; exact r6
    · rw [k0 36 (by omega) (by omega), k0 35 (by omega) (by omega), ko 17 (by omega) (by omega) (by omega)]; exact r7
def sRe (st : St) : St := if st.2.1.1 = true then (st.2.1.2, st.2.1, (0, st.2.2.1.2), st.2.2.2) else st
def oRe (st : St) : Int32 ⊕ Nat := if st.2.1.1 = true then .inl (iI (st.2.1.2.1 3)) else .inr 0
theorem sRe_ok (ok : Ok st) : Ok (sRe st) := by
  unfold sRe
  split
  next c => exact ⟨ok.2.1 c, ok.2.1, ⟨Nat.zero_le 6, fun i hi => absurd hi (Nat.not_lt_zero i)⟩, ok.2.2.2⟩
  · exact ok
theorem cl_restore (ok : Ok st) (R : ClR h st) : clC f_X11_restore h (sRe st) (oRe st) := by
  have r2 := R.2.1.1
  unfold sRe oRe
  by_cases c : st.2.1.1 = true
  · rw [if_pos c, if_pos c]
    rw [show bI (st.2.1.1 = true) = 1 from if_pos c] at r2
    obtain ⟨h2, e2, P2⟩ := k_copyPl (k := 0) (k2 := 3) (by omega) (ok.2.1 c).1 (R.2.1.2 c)
    have w := wr_X5_copyFrom e2
    have e17 : h2.1 (.inr 0) 17 2 = iI (st.2.1.2.1 3) := P2.2.2.2.2.1.1
    have ek : ∀ k, k ≠ 0 → ∀ o, (am_u h2 (.inl 1) 0 6 (iI 0)).1 (.inr k) o = h.1 (.inr k) o := fun k hk o => by rw [am_u_row (by simp), w.P (k := k) (by simp; exact fun z => hk z.symm) o]
    have e0 : ∀ j, j ≠ 6 → (am_u h2 (.inl 1) 0 6 (iI 0)).1 (.inl 1) 0 j = h.1 (.inl 1) 0 j := fun j hj => by rw [au_s, if_neg hj, w.1 _ _ (by simp)]
    have eo : ∀ o, o ≠ 0 → (am_u h2 (.inl 1) 0 6 (iI 0)).1 (.inl 1) o = h.1 (.inl 1) o := fun o ho => by rw [am_u_row (by simp; exact ho), w.1 _ _ (by simp)]
    refine ⟨am_u h2 (.inl 1) 0 6 (iI 0), ?_, ?_, (w.MF rfl).tr ((Wr.u (L := [(.inl 1, 0)]) (by simp)).MF rfl)⟩
    · unfold f_X11_restore
      simp (disch := omega) only [xI_le, xI_lt, xI_eq, xI_0, xI_ib, if_pos, if_neg, if_true, if_false, xI_cl, Int.toNat_natCast, iI_m, iI_a, iI_s, iI_1, xI_n, Option.bind_some, Int.natCast_add, Int.natCast_one, xI_zb, if_bI0, if_bI1, xI_rn, xI_ti, r2, e2, am_lt, am_u_row (show ((.inr 0 : am_G), 17) ≠ (.inl 1, 0) by simp), e17]
    · obtain ⟨r1, ⟨r2, r3⟩, ⟨r4, r5, r6, r7⟩, ⟨r8, r9⟩, ⟨r10, r11⟩, r12, r13⟩ := R
      refine ⟨P2.eq (fun o => am_u_row (by simp)), ⟨by rw [e0 4 (by omega)]; exact r2, fun z => (r3 z).eq (ek 3 (by omega))⟩, ⟨by rw [au_s, if_pos rfl]; rfl, ?_, ?_, fun i _ hi => absurd hi (Nat.not_lt_zero i)⟩, ⟨by rw [eo 8 (by omega)]; exact r8, by rw [eo 9 (by omega)]; exact r9⟩, ⟨by rw [eo 8 (by omega)]; exact r10, by rw [eo 8 (by omega)]; exact r11⟩, by rw [eo 16 (by omega)]; exact r12, by rw [eo 17 (by omega)]; exact r13⟩
      · show ∀ i, i < 6 → 4 ≤ h2.2.2 i ∧ h2.2.2 i < 10
        rw [w.2.2]; exact r5
      · show ∀ i j, i < 6 → j < 6 → h2.2.2 i = h2.2.2 j → i = j
        rw [w.2.2]; exact r6
  · rw [if_neg c, if_neg c]
    rw [show bI (st.2.1.1 = true) = 0 from if_neg c] at r2
    refine clC_w (h1 := h) ?_ (Wr.rf (L := [])) rfl rfl R
    unfold f_X11_restore
    simp (disch := omega) only [xI_le, xI_lt, xI_eq, xI_0, xI_ib, if_pos, if_neg, if_true, if_false, xI_cl, Int.toNat_natCast, iI_m, iI_a, iI_s, iI_1, xI_n, Option.bind_some, Int.natCast_add, Int.natCast_one, xI_zb, if_bI0, if_bI1, xI_rn, xI_ti, r2]
theorem mo_restore (ok : Ok st) (R : MoR h st) : moC f_X12_restore h (sRe st) (oRe st) ex0 := by
  have r2 := R.2.1.1
  unfold sRe oRe
  by_cases c : st.2.1.1 = true
  · rw [if_pos c, if_pos c]
    rw [show bI (st.2.1.1 = true) = 1 from if_pos c] at r2
    obtain ⟨h1, e1, p1, -⟩ := m_copiesRow (h := am_u h (.inl 0) 0 0 (iI 0)) (o0 := 3) (n0 := 408) (o2 := 2) (n2 := 408) (a := 0) (b := 0) (by omega) (by omega) (by omega) (by omega) (by omega)
    have w1 := wr_X12_copiesRow e1
    obtain ⟨h2, e2, p2⟩ := m_copiesNames (h := h1) (o0 := 8) (o1 := 7) (by omega)
    have w2 := wr_X12_copiesNames e2
    have k0 : ∀ j, j ≠ 0 → j ≠ 21 → (am_u h2 (.inl 0) 0 21 (iI 0)).1 (.inl 0) 0 j = h.1 (.inl 0) 0 j := fun j h0 h22 => by rw [au_s, if_neg h22, w2.1 _ _ (by simp), w1.1 _ _ (by simp), au_s, if_neg h0]
    have ko : ∀ o, o ≠ 0 → o ≠ 2 → o ≠ 7 → (am_u h2 (.inl 0) 0 21 (iI 0)).1 (.inl 0) o = h.1 (.inl 0) o := fun o h0 h3 h8 => by rw [am_u_row (by simp; exact h0), w2.1 _ _ (by simp; exact h8), w1.1 _ _ (by simp; exact h3), am_u_row (by simp; exact h0)]
    have kl : ∀ o, o ≠ 2 → o ≠ 7 → (am_u h2 (.inl 0) 0 21 (iI 0)).2.1 (.inl 0) o = h.2.1 (.inl 0) o := fun o h3 h8 => by
      show h2.2.1 (.inl 0) o = _
      rw [w2.2.1 _ _ (by simp; exact h8), w1.2.1 _ _ (by simp; exact h3)]
      rfl
    have P1 : mo_rw (h2.1 (.inl 0) 2) st.2.1.2 := by
      refine (R.2.1.2 c).1.e408 (ok.2.1 c).1 (fun j hj => ?_)
      have := p1 j hj
      rw [Nat.zero_add] at this
      rw [w2.1 _ _ (by simp), this, am_u_row (by simp)]
    have e8 : h2.1 (.inl 0) 2 8 = iI (st.2.1.2.1 3) := P1.1.2.2.2.2.2.2.2.2
    refine ⟨iI (st.2.1.2.1 3), am_u h2 (.inl 0) 0 21 (iI 0), ?_, ?_, CFr.code.tr ((w1.CF rfl).tr ((w2.CF rfl).tr ((Wr.u (L := [(.inl 0, 0)]) (by simp)).CF rfl))), ?_⟩
    · unfold f_X12_restore
      have e1' : f_X12_copiesRow 3 408 (iI 0) 2 408 (iI 0) (am_u h (.inl 0) 0 0 (iI 0)) = some h1 := e1
      simp (disch := omega) only [xI_le, xI_lt, xI_eq, xI_0, xI_ib, if_pos, if_neg, if_true, if_false, xI_cl, Int.toNat_natCast, iI_m, iI_a, iI_s, iI_1, xI_n, Option.bind_some, Int.natCast_add, Int.natCast_one, xI_zb, if_bI0, if_bI1, xI_rn, xI_ti, r2, m_goes1, am_lt, e1', e2, show (8 : Int).toNat = 8 from rfl, am_u_row (show ((.inl 0 : am_G), 2) ≠ (.inl 0, 0) by simp), e8]
    · obtain ⟨⟨r1, r1n⟩, ⟨r2', r2b⟩, ⟨r3, r4⟩, r5, r6, r7⟩ := R
      unfold mo_pl mo_nm at *
      refine ⟨⟨?_, ?_⟩, ?_, ⟨?_, fun i hi => absurd hi (Nat.not_lt_zero i)⟩, ?_, ?_, ?_⟩
      · show mo_rw _ _
        rw [am_u_row (by simp)]; exact P1
      · intro q hq
        have hq' : q < st.2.1.2.1 2 := hq
        have h6 := (ok.2.1 c).1.1.2.2.1
        show h2.2.1 (.inl 0) 7 q = _
        rw [p2 q (by omega), w1.2.1 _ _ (by simp)]
        exact (r2b c).2 q hq
      · unfold mo_nm; rw [k0 22 (by omega) (by omega), ko 3 (by omega) (by omega) (by omega), kl 8 (by omega) (by omega)]; exact ⟨r2', r2b⟩
      · rw [au_s, if_pos rfl]; rfl
      · rw [k0 2 (by omega) (by omega), ko 1 (by omega) (by omega) (by omega)]; exact r5
      · rw [k0 10 (by omega) (by omega), k0 11 (by omega) (by omega)]; exact r6
      · rw [k0 36 (by omega) (by omega), k0 35 (by omega) (by omega), ko 17 (by omega) (by omega) (by omega)]; exact r7
    · rw [au_s, if_neg (by omega), w2.1 _ _ (by simp), w1.1 _ _ (by simp), au_s, if_pos rfl]
      exact agrv
  · rw [if_neg c, if_neg c]
    rw [show bI (st.2.1.1 = true) = 0 from if_neg c] at r2
    refine moC_c (b := iI 0) (c := iI 1) ?_ R agr0
    unfold f_X12_restore
    simp (disch := omega) only [xI_le, xI_lt, xI_eq, xI_0, xI_ib, if_pos, if_neg, if_true, if_false, xI_cl, Int.toNat_natCast, iI_m, iI_a, iI_s, iI_1, xI_n, Option.bind_some, Int.natCast_add, Int.natCast_one, xI_zb, if_bI0, if_bI1, xI_rn, xI_ti, r2, m_goes0]
end UND
