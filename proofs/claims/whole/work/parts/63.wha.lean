/-! rows copied; slips, if -/
theorem m_copiesRow {h : am_H} {o0 n0 o2 n2 a b : Nat} (ho : o0 ≠ o2) (ha : a + 408 ≤ n0) (hb : b + 408 ≤ n2) (hn0 : n0 < 10000) (hn2 : n2 < 10000) : ∃ h', f_X12_copiesRow o0 n0 (iI a) o2 n2 (iI b) h = some h' ∧ (∀ j, j < 408 → h'.1 (.inl 0) o2 (b + j) = h.1 (.inl 0) o0 (a + j)) ∧ ∀ j, j < b ∨ b + 408 ≤ j → h'.1 (.inl 0) o2 j = h.1 (.inl 0) o2 j := by
  obtain ⟨s, e1, r1, r2, r3⟩ := ch_rel (fun i s => f_X12_copiesRow_3 o0 n0 o2 n2 (iI a) (iI b) (iI i) s) (fun i s => (∀ j, j < i → s.1 (.inl 0) o2 (b + j) = h.1 (.inl 0) o0 (a + j)) ∧ (∀ j, j < b ∨ b + i ≤ j → s.1 (.inl 0) o2 j = h.1 (.inl 0) o2 j) ∧ s.1 (.inl 0) o0 = h.1 (.inl 0) o0) (n := 408) (fun i s hi hs => by
    obtain ⟨p1, p2, p3⟩ := hs
    refine ⟨am_u s (.inl 0) o2 (b + i) (h.1 (.inl 0) o0 (a + i)), ?_, fun j hj => ?_, fun j hj => ?_, ?_⟩
    · show f_X12_copiesRow_3 _ _ _ _ _ _ _ _ = f_X12_copiesRow_3 _ _ _ _ _ _ _ _
      rw [e_X12_copiesRow_3]
      simp (disch := omega) only [xI_le, xI_lt, xI_eq, xI_0, xI_ib, if_pos, if_neg, if_true, if_false, xI_cl, Int.toNat_natCast, iI_m, iI_a, iI_s, iI_1, xI_n, Option.bind_some, Int.natCast_add, Int.natCast_one, xI_zb, if_bI0, if_bI1, xI_rn, xI_ti, am_lt, p3, show ((a : Int) + (i : Int)).toNat = a + i from by omega, show ((b : Int) + (i : Int)).toNat = b + i from by omega]
    · rw [au_s]
      by_cases c : j = i
      · rw [if_pos (by omega), c]
      · rw [if_neg (by omega)]; exact p1 j (by omega)
    · rw [au_s, if_neg (by omega)]; exact p2 j (by omega)
    · rw [am_u_row (fun z => ho (by cases z; rfl))]; exact p3) (s0 := h) ⟨fun j hj => absurd hj (Nat.not_lt_zero j), fun j _ => rfl, rfl⟩
  refine ⟨s, ?_, r1, r2⟩
  refine Eq.trans e1 ?_
  show f_X12_copiesRow_3 o0 n0 o2 n2 (iI a) (iI b) (iI ((408 : Nat) : Int)) s = _
  rw [e_X12_copiesRow_3]
  exact if_pos (by decide)
theorem mo_rw.e408 {f f' : Nat → Int32} {v : pv_T} (hv : pv_ok v) (e : ∀ j, j < 408 → f' j = f j) (R : mo_rw f v) : mo_rw f' v := by
  have h8 := hv.1
  obtain ⟨⟨r0, r1, r2, r3, r4, r5, r6, r7, r8⟩, ra, rl, rw', rk, rs⟩ := R
  exact ⟨⟨(e 0 (by omega)).trans r0, (e 1 (by omega)).trans r1, (e 2 (by omega)).trans r2, (e 3 (by omega)).trans r3, (e 4 (by omega)).trans r4, (e 5 (by omega)).trans r5, (e 6 (by omega)).trans r6, (e 7 (by omega)).trans r7, (e 8 (by omega)).trans r8⟩, fun i hi c hc => (e _ (by omega)).trans (ra i hi c hc), fun i hi c hc => (e _ (by omega)).trans (rl i hi c hc), fun i hi => (e _ (by omega)).trans (rw' i hi), fun i hi c hc => (e _ (by omega)).trans (rk i hi c hc), fun i hi c hc => (e _ (by omega)).trans (rs i hi c hc)⟩
theorem m_leaves (h : am_H) : ∃ h', f_X12_leaves h = some h' ∧ (∀ j, j < 408 → h'.1 (.inl 0) 5 j = h.1 (.inl 0) 2 j) ∧ h'.1 (.inl 0) 2 = h.1 (.inl 0) 2 := by
  obtain ⟨h', e, r, -⟩ := m_copiesRow (h := h) (o0 := 2) (n0 := 408) (o2 := 5) (n2 := 408) (a := 0) (b := 0) (by omega) (by omega) (by omega) (by omega) (by omega)
  refine ⟨h', ?_, fun j hj => by have := r j hj; rw [Nat.zero_add] at this; exact this, ?_⟩
  · unfold f_X12_leaves
    have e' : f_X12_copiesRow 2 408 (iI (0)) 5 408 (iI (0)) h = some h' := e
    rw [e', Option.bind_some]
  · exact (wr_X12_copiesRow e).1 _ _ (by simp)
theorem m_comesBack (h : am_H) (x : Int32) : ∃ h', f_X12_comesBack x h = some (x, h') ∧ ∀ j, j < 408 → h'.1 (.inl 0) 2 j = h.1 (.inl 0) 5 j := by
  obtain ⟨h', e, r, -⟩ := m_copiesRow (h := h) (o0 := 5) (n0 := 408) (o2 := 2) (n2 := 408) (a := 0) (b := 0) (by omega) (by omega) (by omega) (by omega) (by omega)
  refine ⟨h', ?_, fun j hj => by have := r j hj; rw [Nat.zero_add] at this; exact this⟩
  unfold f_X12_comesBack
  have e' : f_X12_copiesRow 5 408 (iI (0)) 2 408 (iI (0)) h = some h' := e
  rw [e', Option.bind_some]
/-- the reference tries on its row, and takes the row back -/
theorem MoR.trial {h h' : am_H} {st : St} (ok : Ok st) (w : Wr [(.inl 0, 2), (.inl 0, 5)] h h') (e : ∀ j, j < 408 → h'.1 (.inl 0) 2 j = h.1 (.inl 0) 2 j) (R : MoR h st) : MoR h' st := by
  obtain ⟨⟨r1, r1n⟩, r2, r3, r4, r5, r6⟩ := R
  have k : ∀ o, o ≠ 2 → o ≠ 5 → h'.1 (.inl 0) o = h.1 (.inl 0) o := fun o h2 h5 => w.1 _ _ (by simp; exact ⟨h2, h5⟩)
  have kl : ∀ o, o ≠ 2 → o ≠ 5 → h'.2.1 (.inl 0) o = h.2.1 (.inl 0) o := fun o h2 h5 => w.2.1 _ _ (by simp; exact ⟨h2, h5⟩)
  refine ⟨⟨r1.e408 ok.1.1 e, ?_⟩, ?_⟩
  · unfold mo_nm at *
    rw [kl 7 (by omega) (by omega)]; exact r1n
  · unfold mo_nm at *
    rw [k 0 (by omega) (by omega), k 1 (by omega) (by omega), k 3 (by omega) (by omega), k 6 (by omega) (by omega), k 17 (by omega) (by omega), kl 8 (by omega) (by omega)]
    exact ⟨r2, r3, r4, r5, r6⟩
def oSl1 (v : pv_T) (s : Int) : Int := ((enA 1000 (pu v 0 0 s) (v.1 1)).2.1 3 : Int) - v.1 3
theorem oSl1_b (v : pv_T) (s : Int) : 0 ≤ oSl1 v s ∧ oSl1 v s ≤ 4 * v.1 1 := by
  have := enA_3 (lim := 1000) (v := pu v 0 0 s) (v.1 1)
  have e : (pu v 0 0 s).1 3 = v.1 3 := rfl
  unfold oSl1
  omega
theorem pu00_W {v : pv_T} {s : Int} (hv : pvW v) (hs : 0 ≤ s ∧ s ≤ 99) : pvW (pu v 0 0 s) := by
  obtain ⟨⟨h1, h2, h3, h4, h5, h6, h7⟩, h8⟩ := hv
  exact ⟨⟨h1, h2, h3, h4, h5, h6, hs.1, hs.2, h7.2.2⟩, h8⟩
section WHA
variable {h : am_H} {st : St}
theorem cl_slipsWith (ok : Ok st) (R : ClR h st) {s : Int} (hs : 0 ≤ s ∧ s ≤ 99) : ∃ h1, f_X11_slipsWith (iI s) h = some (iI (oSl1 st.1 s), h1) ∧ ClR h1 st ∧ MFr h h1 := by
  have hv := pvW_of ok.1.1
  have hw := pu00_W hv hs
  obtain ⟨r0, r1, r2, r3⟩ := R.1.2.2.2.1
  have e1 : f_X1_copyFrom (.inl 1) 2 (.inr 0) 16 h = some (am_u (am_u (am_u (am_u h (.inl 1) 2 0 (iI (st.1.2 0 0))) (.inl 1) 2 1 (iI (st.1.2 0 2))) (.inl 1) 2 2 (iI (st.1.2 0 3))) (.inl 1) 2 3 (iI (st.1.2 0 4))) := by
    unfold f_X1_copyFrom
    simp only [am_lt, am_u_row (show ((.inr 0 : am_G), 16) ≠ (.inl 1, 2) by simp), r0, r1, r2, r3]
  generalize eh1 : (am_u (am_u (am_u (am_u h (.inl 1) 2 0 (iI (st.1.2 0 0))) (.inl 1) 2 1 (iI (st.1.2 0 2))) (.inl 1) 2 2 (iI (st.1.2 0 3))) (.inl 1) 2 3 (iI (st.1.2 0 4))) = h1 at e1
  have w1 := wr_X1_copyFrom e1
  have w2 : Wr [(.inl 1, 2)] h (am_u h1 (.inl 1) 2 0 (iI s)) := w1.tr (Wr.u (by simp))
  have G : cl_g (am_u h1 (.inl 1) 2 0 (iI s)) (.inl 1) 2 (gvO (pu st.1 0 0 s)) := by
    subst eh1
    refine ⟨?_, ?_, ?_, ?_⟩ <;> simp only [au_s] <;> rfl
  obtain ⟨h2, e2⟩ := k_slipsBy hw ok.1.1.1.2.2.2 (R.1.1.eq (w2.P (by simp))) (R.1.2.1.eq (w2.P (by simp))) G
  have e3 : f_X11_slipsWith (iI s) h = some (iI (oSl1 st.1 s), h2) := by
    unfold f_X11_slipsWith
    rw [e1, Option.bind_some]
    show (f_X5_slipsBy 0 (am_u h1 (.inl 1) 2 0 (iI s))).bind _ = _
    rw [e2, Option.bind_some]
    have := enA_sl (lim := 1000) hw (st.1.1 1) (Nat.le_refl _)
    show some (iI ((enA 1000 (pu st.1 0 0 s) (st.1.1 1)).2.2 0 3 - (pu st.1 0 0 s).2 0 3), h2) = _
    rw [this]
    rfl
  have w := wr_X11_slipsWith e3
  exact ⟨h2, e3, ClR.wr w rfl R, w.MF rfl⟩
theorem mo_slipsBy (ok : Ok st) (R : MoR h st) {s : Int} (hs : 0 ≤ s ∧ s ≤ 99) : ∃ h3, f_X12_slipsBy (iI s) h = some (iI (oSl1 st.1 s), h3) ∧ MoR h3 st ∧ CFr h h3 := by
  have hv := pvW_of ok.1.1
  have hw := pu00_W hv hs
  obtain ⟨h1, e1, c1, k1⟩ := m_leaves h
  have w1 := wr_X12_leaves e1
  have M1 : mo_pl (am_u h1 (.inl 0) 2 3 (iI s)) (pu st.1 0 0 s) := by
    obtain ⟨⟨r0, r1, r2, r3, r4, r5, r6, r7, r8⟩, ra, rl, rw', rk, rs⟩ := R.1.1
    rw [← k1] at r0 r1 r2 r3 r4 r5 r6 r7 r8 ra rl rw' rk rs
    have e : ∀ i, i ≠ 3 → (am_u h1 (.inl 0) 2 3 (iI s)).1 (.inl 0) 2 i = h1.1 (.inl 0) 2 i := fun i hi => by rw [au_s, if_neg hi]
    refine ⟨⟨(e 0 (by omega)).trans r0, (e 1 (by omega)).trans r1, (e 2 (by omega)).trans r2, by rw [au_s, if_pos rfl]; rfl, (e 4 (by omega)).trans r4, (e 5 (by omega)).trans r5, (e 6 (by omega)).trans r6, (e 7 (by omega)).trans r7, (e 8 (by omega)).trans r8⟩, fun i hi c hc => ?_, fun i hi c hc => ?_, fun i hi => ?_, fun i hi c hc => ?_, fun i hi c hc => ?_⟩
    · rw [pu_o (by omega), e _ (by omega)]; exact ra i hi c hc
    · rw [pu_o (by omega), e _ (by omega)]; exact rl i hi c hc
    · rw [pu_o (by omega), e _ (by omega)]; exact rw' i hi
    · rw [pu_o (by omega), e _ (by omega)]; exact rk i hi c hc
    · rw [pu_o (by omega), e _ (by omega)]; exact rs i hi c hc
  obtain ⟨h2, e2, M2⟩ := m_engravesAll (lim := 1000) hw (by omega) ok.1.1.1.2.2.2 M1
  have w2 := wr_X12_engravesAll e2
  obtain ⟨h3, e3, c3⟩ := m_comesBack h2 (iI (oSl1 st.1 s))
  have w3 := wr_X12_comesBack e3
  have e5 : h2.1 (.inl 0) 5 = h1.1 (.inl 0) 5 := by rw [w2.1 _ _ (by simp), am_u_row (by simp)]
  have e9 : f_X12_slipsBy (iI s) h = some (iI (oSl1 st.1 s), h3) := by
    have r8 := M1.1.2.2.2.2.2.2.2.2
    have r8' := M2.1.2.2.2.2.2.2.2.2
    have e2' : f_X12_engravesAll (iI 1000) (am_u h1 (.inl 0) 2 3 (iI s)) = _ := e2
    unfold f_X12_slipsBy
    simp (disch := omega) only [xI_le, xI_lt, xI_eq, xI_0, xI_ib, if_pos, if_neg, if_true, if_false, xI_cl, Int.toNat_natCast, iI_m, iI_a, iI_s, iI_1, xI_n, Option.bind_some, Int.natCast_add, Int.natCast_one, xI_zb, if_bI0, if_bI1, xI_rn, xI_ti, e1, show (3 : Int).toNat = 3 from rfl, show (8 : Int).toNat = 8 from rfl, am_lt, e2', r8, r8']
    have e3' : f_X12_comesBack (iI (((enA 1000 (pu st.1 0 0 s) ((pu st.1 0 0 s).1 1)).2.1 3 : Int) - ((pu st.1 0 0 s).1 3 : Int))) h2 = _ := e3
    rw [e3', Option.bind_some]
  have w := wr_X12_slipsBy e9
  refine ⟨h3, e9, MoR.trial ok (w.mono (by simp)) (fun j hj => ?_) R, w.CF rfl⟩
  rw [c3 j hj, e5, c1 j hj]
/-! slipsIf, leastSharp -/
theorem cl_slipsIf (ok : Ok st) (R : ClR h st) : ∃ h1, f_X11_slipsIf h = some (iI (oSl1 st.1 (st.1.2 0 0)), h1) ∧ ClR h1 st ∧ MFr h h1 := by
  obtain ⟨h1, e1, c1, m1⟩ := cl_slipsWith ok R (s := st.1.2 0 0) ⟨ok.1.1.2.2.2.2.2.2.1, ok.1.1.2.2.2.2.2.2.2.1⟩
  refine ⟨h1, ?_, c1, m1⟩
  unfold f_X11_slipsIf
  rw [R.1.2.2.2.1.1, e1, Option.bind_some]
theorem mo_slipsIf (ok : Ok st) (R : MoR h st) : ∃ h3, f_X12_slipsIf h = some (iI (oSl1 st.1 (st.1.2 0 0)), h3) ∧ MoR h3 st ∧ CFr h h3 := by
  have Rc := R.code (x := iI 0)
  obtain ⟨h1, e1, c1, m1⟩ := mo_slipsBy ok Rc (s := st.1.2 0 0) ⟨ok.1.1.2.2.2.2.2.2.1, ok.1.1.2.2.2.2.2.2.2.1⟩
  refine ⟨h1, ?_, c1, CFr.code.tr m1⟩
  unfold f_X12_slipsIf
  simp (disch := omega) only [xI_le, xI_lt, xI_eq, xI_0, xI_ib, if_pos, if_neg, if_true, if_false, xI_cl, Int.toNat_natCast, iI_m, iI_a, iI_s, iI_1, xI_n, Option.bind_some, Int.natCast_add, Int.natCast_one, xI_zb, if_bI0, if_bI1, xI_rn, xI_ti, am_lt, show (3 : Int).toNat = 3 from rfl, Rc.1.1.1.2.2.2.1, e1]
theorem t_24 {L : Nat} {xs : Nat → Int32} {x4 : Int32} (ok : Ok st) (C : ClR h st) (M : MoR h st) : ∃ h', law_24 L xs x4 h = some h' ∧ ClR h' st ∧ MoR h' st := tyB_ok M (cl_slipsIf ok C) (fun _ M2 => mo_slipsIf ok M2)
def lsP (v : pv_T) : Nat := pv_fst (fun i => decide (oSl1 v ((i : Int) + 1) = 0)) 99 0
def oLs (v : pv_T) : Int := if lsP v < 99 then (lsP v : Int) + 1 else -1
theorem cl_leastSharp (ok : Ok st) (R : ClR h st) : ∃ h1, f_X11_leastSharp h = some (iI (oLs st.1), h1) ∧ ClR h1 st ∧ MFr h h1 := by
  have hm := pv_fst_le (fun i => decide (oSl1 st.1 ((i : Int) + 1) = 0)) 99 0
  have hat := pv_fst_at (fun i => decide (oSl1 st.1 ((i : Int) + 1) = 0)) 99 0
  have hlt := pv_fst_lt (fun i => decide (oSl1 st.1 ((i : Int) + 1) = 0)) 99 0
  have hb := oSl1_b st.1
  have h20 := ok.1.1.1.2.1
  simp only [decide_eq_true_eq, decide_eq_false_iff_not] at hat hlt
  unfold oLs lsP
  generalize pv_fst (fun i => decide (oSl1 st.1 ((i : Int) + 1) = 0)) 99 0 = m at hm hat hlt ⊢
  obtain ⟨s, e1, C1, M1⟩ := ch_rel (fun i s => f_X11_leastSharp_2 (iI ((i : Int) + 1)) s) (fun _ s => ClR s st ∧ MFr h s) (n := m) (fun i s hi hs => by
    obtain ⟨h1, e1, c1, m1⟩ := cl_slipsWith ok hs.1 (s := (i : Int) + 1) (by omega)
    have h9 := hlt i (by omega) hi
    have h7 := hb ((i : Int) + 1)
    refine ⟨h1, ?_, c1, hs.2.tr m1⟩
    show f_X11_leastSharp_2 _ _ = f_X11_leastSharp_2 _ _
    rw [e_X11_leastSharp_2]
    simp (disch := omega) only [xI_le, xI_lt, xI_eq, xI_0, xI_ib, if_pos, if_neg, if_true, if_false, xI_cl, Int.toNat_natCast, iI_m, iI_a, iI_s, iI_1, xI_n, Option.bind_some, Int.natCast_add, Int.natCast_one, xI_zb, if_bI0, if_bI1, xI_rn, xI_ti, e1]) (s0 := h) ⟨R, MFr.rf⟩
  have e0 : f_X11_leastSharp h = f_X11_leastSharp_2 (iI ((m : Int) + 1)) s := e1
  by_cases c : m < 99
  · obtain ⟨h1, e2, c1, m1⟩ := cl_slipsWith ok C1 (s := (m : Int) + 1) (by omega)
    refine ⟨h1, ?_, c1, M1.tr m1⟩
    rw [e0, e_X11_leastSharp_2, if_pos c]
    have h9 := hat (by omega)
    simp (disch := omega) only [xI_le, xI_lt, xI_eq, xI_0, xI_ib, if_pos, if_neg, if_true, if_false, xI_cl, Int.toNat_natCast, iI_m, iI_a, iI_s, iI_1, xI_n, Option.bind_some, Int.natCast_add, Int.natCast_one, xI_zb, if_bI0, if_bI1, xI_rn, xI_ti, e2, h9]
  · refine ⟨s, ?_, C1, M1⟩
    rw [e0, e_X11_leastSharp_2, if_neg c]
    simp (disch := omega) only [xI_le, xI_lt, xI_eq, xI_0, xI_ib, if_pos, if_neg, if_true, if_false, xI_cl, Int.toNat_natCast, iI_m, iI_a, iI_s, iI_1, xI_n, Option.bind_some, Int.natCast_add, Int.natCast_one, xI_zb, if_bI0, if_bI1, xI_rn, xI_ti]
theorem mo_leastSharp (ok : Ok st) (R : MoR h st) : ∃ h3, f_X12_leastSharp h = some (iI (oLs st.1), h3) ∧ MoR h3 st ∧ CFr h h3 := by
  have hm := pv_fst_le (fun i => decide (oSl1 st.1 ((i : Int) + 1) = 0)) 99 0
  have hat := pv_fst_at (fun i => decide (oSl1 st.1 ((i : Int) + 1) = 0)) 99 0
  have hlt := pv_fst_lt (fun i => decide (oSl1 st.1 ((i : Int) + 1) = 0)) 99 0
  have hb := oSl1_b st.1
  have h20 := ok.1.1.1.2.1
  simp only [decide_eq_true_eq, decide_eq_false_iff_not] at hat hlt
  unfold oLs lsP
  generalize pv_fst (fun i => decide (oSl1 st.1 ((i : Int) + 1) = 0)) 99 0 = m at hm hat hlt ⊢
  obtain ⟨s, e1, C1, M1⟩ := ch_rel (fun i s => f_X12_leastSharp_7 (iI ((i : Int) + 1)) s) (fun _ s => MoR s st ∧ CFr h s) (n := m) (fun i s hi hs => by
    obtain ⟨h1, e1, c1, m1⟩ := mo_slipsBy ok hs.1 (s := (i : Int) + 1) (by omega)
    have h9 := hlt i (by omega) hi
    have h7 := hb ((i : Int) + 1)
    refine ⟨h1, ?_, c1, hs.2.tr m1⟩
    show f_X12_leastSharp_7 _ _ = f_X12_leastSharp_7 _ _
    rw [e_X12_leastSharp_7]
    simp (disch := omega) only [xI_le, xI_lt, xI_eq, xI_0, xI_ib, if_pos, if_neg, if_true, if_false, xI_cl, Int.toNat_natCast, iI_m, iI_a, iI_s, iI_1, xI_n, Option.bind_some, Int.natCast_add, Int.natCast_one, xI_zb, if_bI0, if_bI1, xI_rn, xI_ti, e1]) (s0 := am_u h (.inl 0) 0 0 (iI 0)) ⟨R.code, CFr.code⟩
  have e0 : f_X12_leastSharp h = f_X12_leastSharp_7 (iI ((m : Int) + 1)) s := e1
  by_cases c : m < 99
  · obtain ⟨h1, e2, c1, m1⟩ := mo_slipsBy ok C1 (s := (m : Int) + 1) (by omega)
    refine ⟨h1, ?_, c1, M1.tr m1⟩
    rw [e0, e_X12_leastSharp_7, if_pos c]
    have h9 := hat (by omega)
    simp (disch := omega) only [xI_le, xI_lt, xI_eq, xI_0, xI_ib, if_pos, if_neg, if_true, if_false, xI_cl, Int.toNat_natCast, iI_m, iI_a, iI_s, iI_1, xI_n, Option.bind_some, Int.natCast_add, Int.natCast_one, xI_zb, if_bI0, if_bI1, xI_rn, xI_ti, e2, h9]
  · refine ⟨s, ?_, C1, M1⟩
    rw [e0, e_X12_leastSharp_7, if_neg c]
    simp (disch := omega) only [xI_le, xI_lt, xI_eq, xI_0, xI_ib, if_pos, if_neg, if_true, if_false, xI_cl, Int.toNat_natCast, iI_m, iI_a, iI_s, iI_1, xI_n, Option.bind_some, Int.natCast_add, Int.natCast_one, xI_zb, if_bI0, if_bI1, xI_rn, xI_ti]
theorem t_25 {L : Nat} {xs : Nat → Int32} {x4 : Int32} (ok : Ok st) (C : ClR h st) (M : MoR h st) : ∃ h', law_25 L xs x4 h = some h' ∧ ClR h' st ∧ MoR h' st := tyB_ok M (cl_leastSharp ok C) (fun _ M2 => mo_leastSharp ok M2)
end WHA
