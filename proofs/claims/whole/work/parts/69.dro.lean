/-! an arc left out; spare -/
def dropA (v : pv_T) (a : Nat) : pv_T := (fun k => if k = 0 then v.1 0 - 1 else v.1 k, fun c i => if 1 ≤ c ∧ c ≤ 4 ∧ a ≤ i then v.2 c (i + 1) else v.2 c i)
theorem dropA_o {v : pv_T} {a c i : Nat} (h : ¬ (1 ≤ c ∧ c ≤ 4 ∧ a ≤ i)) : (dropA v a).2 c i = v.2 c i := if_neg h
theorem dropA_s {v : pv_T} {a c i : Nat} (h : 1 ≤ c ∧ c ≤ 4 ∧ a ≤ i) : (dropA v a).2 c i = v.2 c (i + 1) := if_pos h
theorem dropA_ok {v : pv_T} {a : Nat} (hv : pv_ok v) (ha : a < v.1 0) : pv_ok (dropA v a) := by
  obtain ⟨⟨a0, a1, a2, a3⟩, h2, h3, h4, h5, h6, h7⟩ := hv
  refine ⟨⟨?_, a1, a2, a3⟩, fun i hi => ?_, fun i hi => ?_, fun i hi => ?_, fun i hi => ?_, fun i hi => ?_, ?_⟩
  · show v.1 0 - 1 ≤ 8; omega
  · have hi' : i < v.1 0 - 1 := hi
    by_cases d : a ≤ i
    · rw [dropA_s ⟨by omega, by omega, d⟩, dropA_s ⟨by omega, by omega, d⟩, dropA_s ⟨by omega, by omega, d⟩, dropA_s ⟨by omega, by omega, d⟩]
      exact h2 (i + 1) (by omega)
    · rw [dropA_o (by omega), dropA_o (by omega), dropA_o (by omega), dropA_o (by omega)]
      exact h2 i (by omega)
  · rw [dropA_o (by omega), dropA_o (by omega), dropA_o (by omega)]; exact h3 i hi
  · rw [dropA_o (by omega)]; exact h4 i hi
  · rw [dropA_o (by omega), dropA_o (by omega), dropA_o (by omega)]; exact h5 i hi
  · rw [dropA_o (by omega), dropA_o (by omega)]; exact h6 i hi
  · rw [dropA_o (by omega), dropA_o (by omega)]; exact h7
def shA (f : Nat → Int) (a i : Nat) : Nat → Int := fun j => if a ≤ j ∧ j < a + i then f (j + 1) else f j
theorem shA_u {f : Nat → Int} {a i j : Nat} : shA f a (i + 1) j = if j = a + i then f (a + i + 1) else shA f a i j := by
  unfold shA
  by_cases c : j = a + i
  · subst c
    rw [if_pos (by omega), if_pos rfl]
  · rw [if_neg c]
    by_cases d : a ≤ j ∧ j < a + i
    · rw [if_pos (by omega), if_pos d]
    · rw [if_neg (by omega), if_neg d]
theorem shA_0 {f : Nat → Int} {a i : Nat} : shA f a i (a + i + 1) = f (a + i + 1) := if_neg (by omega)
section DRO
variable {h : am_H} {st : St} {v : pv_T} {k : Nat}
theorem k_removeArc {a : Nat} (hv : pv_ok v) (ha : a < v.1 0) (R : cl_cu h k v) : ∃ h', f_X0_removeArc k (iI a) h = some h' ∧ cl_cu h' k (dropA v a) := by
  have h8 : v.1 0 ≤ 8 := hv.1.1
  obtain ⟨s, e1, r1, r2⟩ := ch_rel (fun i s => f_X0_removeArc_4 k (iI (a + 1 + i : Int)) s) (fun i s => s.1 (.inr k) 1 4 = iI (v.1 0) ∧ (∀ j, j < v.1 0 → s.1 (.inr k) 2 j = iI (shA (v.2 1) a i j) ∧ s.1 (.inr k) 3 j = iI (shA (v.2 2) a i j) ∧ s.1 (.inr k) 4 j = iI (shA (v.2 4) a i j) ∧ s.1 (.inr k) 5 j = iI (shA (v.2 3) a i j))) (n := v.1 0 - 1 - a) (fun i s hi hs => by
    obtain ⟨p1, p2⟩ := hs
    obtain ⟨q1, q2, q3, q4⟩ := p2 (a + i + 1) (by omega)
    rw [shA_0] at q1 q2 q3 q4
    have hb := hv.2.1 (a + i + 1) (by omega)
    refine ⟨am_u (am_u (am_u (am_u s (.inr k) 2 (a + i) (iI (v.2 1 (a + i + 1)))) (.inr k) 3 (a + i) (iI (v.2 2 (a + i + 1)))) (.inr k) 4 (a + i) (iI (v.2 4 (a + i + 1)))) (.inr k) 5 (a + i) (iI (v.2 3 (a + i + 1))), ?_, ?_, fun j hj => ?_⟩
    · show f_X0_removeArc_4 _ _ _ = f_X0_removeArc_4 _ _ _
      have e1 : ((a : Int) + 1 + (i : Int)).toNat = a + i + 1 := by omega
      have e2 : ((a : Int) + 1 + (i : Int) - 1).toNat = a + i := by omega
      rw [e_X0_removeArc_4]
      unfold f_X0_copyArc
      simp (disch := omega) only [xI_le, xI_lt, xI_eq, xI_0, xI_ib, if_pos, if_neg, if_true, if_false, xI_cl, Int.toNat_natCast, iI_m, iI_a, iI_s, iI_1, xI_n, Option.bind_some, Int.natCast_add, Int.natCast_one, xI_zb, if_bI0, if_bI1, xI_rn, xI_ti, p1, am_lt, e1, e2, am_u_row (show ((.inr k : am_G), 3) ≠ (.inr k, 2) by simp), am_u_row (show ((.inr k : am_G), 4) ≠ (.inr k, 3) by simp), am_u_row (show ((.inr k : am_G), 4) ≠ (.inr k, 2) by simp), am_u_row (show ((.inr k : am_G), 5) ≠ (.inr k, 2) by simp), am_u_row (show ((.inr k : am_G), 5) ≠ (.inr k, 3) by simp), am_u_row (show ((.inr k : am_G), 5) ≠ (.inr k, 4) by simp), q1, q2, q3, q4, nar_b, show (a : Int) + 1 + (i : Int) + 1 = a + 1 + ((i : Int) + 1) from by omega]
    · rw [am_u_row (by simp), am_u_row (by simp), am_u_row (by simp), am_u_row (by simp)]; exact p1
    · obtain ⟨u1, u2, u3, u4⟩ := p2 j hj
      refine ⟨?_, ?_, ?_, ?_⟩
      · rw [am_u_row (by simp), am_u_row (by simp), am_u_row (by simp), au_s, shA_u]
        by_cases c : j = a + i
        · rw [if_pos c, if_pos c]
        · rw [if_neg c, if_neg c]; exact u1
      · rw [am_u_row (by simp), am_u_row (by simp), au_s, am_u_row (by simp), shA_u]
        by_cases c : j = a + i
        · rw [if_pos c, if_pos c]
        · rw [if_neg c, if_neg c]; exact u2
      · rw [am_u_row (by simp), au_s, am_u_row (by simp), am_u_row (by simp), shA_u]
        by_cases c : j = a + i
        · rw [if_pos c, if_pos c]
        · rw [if_neg c, if_neg c]; exact u3
      · rw [au_s, am_u_row (by simp), am_u_row (by simp), am_u_row (by simp), shA_u]
        by_cases c : j = a + i
        · rw [if_pos c, if_pos c]
        · rw [if_neg c, if_neg c]; exact u4) (s0 := h) ⟨R.1, fun j hj => by
      have e : ∀ f : Nat → Int, shA f a 0 j = f j := fun f => if_neg (by omega)
      rw [e, e, e, e]
      exact R.2 j hj⟩
  refine ⟨am_u s (.inr k) 1 4 (iI ((v.1 0 : Int) - 1)), ?_, ?_, fun i hi => ?_⟩
  · unfold f_X0_removeArc
    rw [iI_a, show (a : Int) + 1 = a + 1 + ((0 : Nat) : Int) by omega]
    refine Eq.trans e1 ?_
    show f_X0_removeArc_4 _ _ _ = _
    rw [e_X0_removeArc_4]
    simp (disch := omega) only [xI_le, xI_lt, xI_eq, xI_0, xI_ib, if_pos, if_neg, if_true, if_false, xI_cl, Int.toNat_natCast, iI_m, iI_a, iI_s, iI_1, xI_n, Option.bind_some, Int.natCast_add, Int.natCast_one, xI_zb, if_bI0, if_bI1, xI_rn, xI_ti, r1, am_lt]
  · rw [au_s, if_pos rfl]
    show _ = iI ((v.1 0 - 1 : Nat) : Int)
    rw [Int.ofNat_sub (by omega)]; rfl
  · have hi' : i < v.1 0 - 1 := hi
    obtain ⟨u1, u2, u3, u4⟩ := r2 i (by omega)
    have e : ∀ c, 1 ≤ c → c ≤ 4 → shA (v.2 c) a (v.1 0 - 1 - a) i = (dropA v a).2 c i := fun c h1 h2 => by
      unfold shA
      by_cases d : a ≤ i
      · rw [if_pos (by omega), dropA_s ⟨h1, h2, d⟩]
      · rw [if_neg (by omega), dropA_o (by omega)]
    rw [am_u_row (by simp), am_u_row (by simp), am_u_row (by simp), am_u_row (by simp), u1, u2, u3, u4, e 1 (by omega) (by omega), e 2 (by omega) (by omega), e 3 (by omega) (by omega), e 4 (by omega) (by omega)]
    exact ⟨rfl, rfl, rfl, rfl⟩
theorem m_dropsArc {a : Nat} (hv : pv_ok v) (ha : a < v.1 0) (R : mo_pl h v) : ∃ h', f_X12_dropsArc (iI a) h = some h' ∧ mo_pl h' (dropA v a) := by
  have h8 : v.1 0 ≤ 8 := hv.1.1
  obtain ⟨s, e1, p1, p2, p3⟩ := ch_rel (fun i s => f_X12_dropsArc_14 (iI (4 * a + i : Int)) s) (fun i s => s.1 (.inl 0) 2 0 = iI ((v.1 0 : Int) - 1) ∧ (∀ j, 12 + 4 * a ≤ j → j < 12 + 4 * a + i → s.1 (.inl 0) 2 j = h.1 (.inl 0) 2 (j + 4)) ∧ ∀ j, j ≠ 0 → (j < 12 + 4 * a ∨ 12 + 4 * a + i ≤ j) → s.1 (.inl 0) 2 j = h.1 (.inl 0) 2 j) (n := 4 * (v.1 0 - 1) - 4 * a) (fun i s hi hs => by
    obtain ⟨p1, p2, p3⟩ := hs
    have q := p3 (12 + 4 * a + i + 4) (by omega) (by omega)
    refine ⟨am_u s (.inl 0) 2 (12 + 4 * a + i) (h.1 (.inl 0) 2 (12 + 4 * a + i + 4)), ?_, ?_, fun j h1 h2 => ?_, fun j h1 h2 => ?_⟩
    · show f_X12_dropsArc_14 _ _ = f_X12_dropsArc_14 _ _
      have e1 : (12 + (4 * (a : Int) + (i : Int)) + 4).toNat = 12 + 4 * a + i + 4 := by omega
      have e2 : (12 + (4 * (a : Int) + (i : Int))).toNat = 12 + 4 * a + i := by omega
      rw [e_X12_dropsArc_14]
      simp (disch := omega) only [xI_le, xI_lt, xI_eq, xI_0, xI_ib, if_pos, if_neg, if_true, if_false, xI_cl, Int.toNat_natCast, iI_m, iI_a, iI_s, iI_1, xI_n, Option.bind_some, Int.natCast_add, Int.natCast_one, xI_zb, if_bI0, if_bI1, xI_rn, xI_ti, show (0 : Int).toNat = 0 from rfl, p1, e1, e2, q, am_lt, show 4 * (a : Int) + (i : Int) + 1 = 4 * (a : Int) + ((i : Int) + 1) from by omega]
    · rw [au_s, if_neg (by omega)]; exact p1
    · rw [au_s]
      by_cases c : j = 12 + 4 * a + i
      · rw [if_pos c, c]
      · rw [if_neg c]; exact p2 j h1 (by omega)
    · rw [au_s, if_neg (by omega)]; exact p3 j h1 (by omega)) (s0 := am_u h (.inl 0) 2 0 (iI ((v.1 0 : Int) - 1))) ⟨by rw [au_s, if_pos rfl], fun j h1 h2 => absurd h2 (by omega), fun j h1 _ => by rw [au_s, if_neg h1]⟩
  have h9 := hv.1
  refine ⟨s, ?_, ?_⟩
  · unfold f_X12_dropsArc
    simp (disch := omega) only [xI_le, xI_lt, xI_eq, xI_0, xI_ib, if_pos, if_neg, if_true, if_false, xI_cl, Int.toNat_natCast, iI_m, iI_a, iI_s, iI_1, xI_n, Option.bind_some, Int.natCast_add, Int.natCast_one, xI_zb, if_bI0, if_bI1, xI_rn, xI_ti, show (0 : Int).toNat = 0 from rfl, R.1.1, am_lt]
    rw [show 4 * (a : Int) = 4 * (a : Int) + ((0 : Nat) : Int) by omega]
    refine Eq.trans e1 ?_
    show f_X12_dropsArc_14 _ _ = _
    rw [e_X12_dropsArc_14]
    simp (disch := omega) only [xI_le, xI_lt, xI_eq, xI_0, xI_ib, if_pos, if_neg, if_true, if_false, xI_cl, Int.toNat_natCast, iI_m, iI_a, iI_s, iI_1, xI_n, Option.bind_some, Int.natCast_add, Int.natCast_one, xI_zb, if_bI0, if_bI1, xI_rn, xI_ti, show (0 : Int).toNat = 0 from rfl, p1]
  · obtain ⟨⟨r0, r1, r2, r3, r4, r5, r6, r7, r8⟩, ra, rl, rw', rk, rs⟩ := R
    refine ⟨⟨?_, (p3 1 (by omega) (by omega)).trans r1, (p3 2 (by omega) (by omega)).trans r2, (p3 3 (by omega) (by omega)).trans r3, (p3 4 (by omega) (by omega)).trans r4, (p3 5 (by omega) (by omega)).trans r5, (p3 6 (by omega) (by omega)).trans r6, (p3 7 (by omega) (by omega)).trans r7, (p3 8 (by omega) (by omega)).trans r8⟩, fun i hi c hc => ?_, fun i hi c hc => ?_, fun i hi => ?_, fun i hi c hc => ?_, fun i hi c hc => ?_⟩
    · rw [p1]
      show _ = iI ((v.1 0 - 1 : Nat) : Int)
      rw [Int.ofNat_sub (by omega)]; rfl
    · have hi' : i < v.1 0 - 1 := hi
      by_cases d : a ≤ i
      · rw [dropA_s ⟨by omega, by omega, d⟩, p2 _ (by omega) (by omega), show 12 + 4 * i + c + 4 = 12 + 4 * (i + 1) + c by omega]
        exact ra (i + 1) (by omega) c hc
      · rw [dropA_o (by omega), p3 _ (by omega) (by omega)]
        exact ra i (by omega) c hc
    · rw [dropA_o (by omega), p3 _ (by omega) (by omega)]; exact rl i hi c hc
    · rw [dropA_o (by omega), p3 _ (by omega) (by omega)]; exact rw' i hi
    · rw [dropA_o (by omega), p3 _ (by omega) (by omega)]; exact rk i hi c hc
    · rw [dropA_o (by omega), p3 _ (by omega) (by omega)]; exact rs i hi c hc
theorem m_crowdedWithout (ok : Ok st) (R : MoR h st) {a : Nat} (ha : a < st.1.1 0) : ∃ h3, f_X12_crowdedWithout (iI a) h = some (iI (crN (dropA st.1 a)), h3) ∧ MoR h3 st ∧ CFr h h3 := by
  have hv := ok.1.1
  obtain ⟨h1, e1, k1⟩ := m_leaves' h
  have R1 : mo_pl h1 st.1 := by show mo_rw (h1.1 (.inl 0) 2) st.1; rw [k1]; exact R.1.1
  obtain ⟨s, e2, Rs⟩ := m_dropsArc hv ha R1
  obtain ⟨h3, e3, M3, C3⟩ := m_trial ok R e1 (wr_X12_dropsArc e2) (iI (crN (dropA st.1 a)))
  refine ⟨h3, ?_, M3, C3⟩
  have em : f_X12_crowdedMany s = some (iI (crN (dropA st.1 a))) := m_crowdedMany (dropA_ok hv ha) Rs
  unfold f_X12_crowdedWithout
  rw [e1, Option.bind_some, e2, Option.bind_some, em, Option.bind_some, e3, Option.bind_some]
def spN (v : pv_T) : Nat → Int × Nat
  | 0 => (-1, 22)
  | i + 1 => if (spN v i).2 ≤ crN (dropA v i) then spN v i else ((i : Int), crN (dropA v i))
theorem spN_b (v : pv_T) (h20 : v.1 1 ≤ 20) : ∀ i, -1 ≤ (spN v i).1 ∧ (spN v i).1 < i ∧ (spN v i).2 ≤ 22 ∧ (0 < i → 0 ≤ (spN v i).1)
  | 0 => ⟨Int.le_refl _, by show (-1 : Int) < ((0 : Nat) : Int); omega, Nat.le_refl _, fun z => absurd z (Nat.lt_irrefl 0)⟩
  | i + 1 => by
    have h1 := spN_b v h20 i
    have h2 : crN (dropA v i) ≤ v.1 1 + 1 := crN_le (dropA v i)
    by_cases c : (spN v i).2 ≤ crN (dropA v i)
    · rw [show spN v (i + 1) = spN v i from if_pos c]
      refine ⟨h1.1, by omega, h1.2.2.1, fun _ => ?_⟩
      by_cases d : 0 < i
      · exact h1.2.2.2 d
      · have : i = 0 := by omega
        subst this
        have : (22 : Nat) ≤ crN (dropA v 0) := c
        omega
    · rw [show spN v (i + 1) = ((i : Int), crN (dropA v i)) from if_neg c]
      refine ⟨?_, ?_, ?_, fun _ => ?_⟩
      · show (-1 : Int) ≤ i; omega
      · show (i : Int) < ((i + 1 : Nat) : Int); omega
      · show crN (dropA v i) ≤ 22; omega
      · show (0 : Int) ≤ i; omega
theorem cl_spare (ok : Ok st) (R : ClR h st) : ∃ h1, f_X11_spare h = some (iI (spN st.1 (st.1.1 0)).1, h1) ∧ ClR h1 st ∧ MFr h h1 := by
  have hv := ok.1.1
  have h8 := hv.1
  obtain ⟨s, e1, C1, M1⟩ := ch_rel (fun i s => f_X11_spare_7 (iI (spN st.1 i).1) (iI (spN st.1 i).2) (iI i) s) (fun _ s => ClR s st ∧ MFr h s) (n := st.1.1 0) (fun i s hi hs => by
    obtain ⟨C, M⟩ := hs
    obtain ⟨h0, e0, R0⟩ := k_copyPl (k := 2) (k2 := 0) (by omega) hv C.1
    have w0 := wr_X5_copyFrom e0
    obtain ⟨h1, e1, R1⟩ := k_removeArc hv hi R0.1
    have w1 := wr_X0_removeArc e1
    have Rn : cl_na h1 2 (dropA st.1 i) := by
      have q := R0.2.1
      unfold cl_na at q ⊢
      rw [w1.1 _ 6 (by simp), w1.1 _ 7 (by simp), w1.1 _ 8 (by simp), w1.1 _ 9 (by simp), w1.1 _ 10 (by simp)]
      exact q
    obtain ⟨h2, e2⟩ := k_crTrial (dropA_ok hv hi) R1 Rn (by rw [w1.1 _ _ (by simp)]; exact R0.2.2.2.2.2)
    have w2 := wr_X11_crowdedOfTrial e2
    have hb := spN_b st.1 h8.2.1 i
    have h7 : crN (dropA st.1 i) ≤ st.1.1 1 + 1 := crN_le (dropA st.1 i)
    have ebc : f_J6_bitCount_0f7a4 (pv_crS (dropA st.1 i) (st.1.1 1 + 1)) = some (iI (crN (dropA st.1 i))) := crS_bc (v := dropA st.1 i) h8.2.1
    have e2' : f_X11_crowdedOfTrial h1 = some (pv_crS (dropA st.1 i) (st.1.1 1 + 1), h2) := e2
    refine ⟨h2, ?_, ClR.wr w2 rfl (ClR.wr w1 rfl (ClR.wr w0 rfl C)), M.tr ((w0.MF rfl).tr ((w1.MF rfl).tr (w2.MF rfl)))⟩
    show f_X11_spare_7 _ _ _ _ = f_X11_spare_7 _ _ _ _
    rw [e_X11_spare_7]
    by_cases c : (spN st.1 i).2 ≤ crN (dropA st.1 i)
    · rw [show spN st.1 (i + 1) = spN st.1 i from if_pos c]
      simp (disch := omega) only [xI_le, xI_lt, xI_eq, xI_0, xI_ib, if_pos, if_neg, if_true, if_false, xI_cl, Int.toNat_natCast, iI_m, iI_a, iI_s, iI_1, xI_n, Option.bind_some, Int.natCast_add, Int.natCast_one, xI_zb, if_bI0, if_bI1, xI_rn, xI_ti, C.1.1.1, e0, e1, e2', ebc]
    · rw [show spN st.1 (i + 1) = ((i : Int), crN (dropA st.1 i)) from if_neg c]
      simp (disch := omega) only [xI_le, xI_lt, xI_eq, xI_0, xI_ib, if_pos, if_neg, if_true, if_false, xI_cl, Int.toNat_natCast, iI_m, iI_a, iI_s, iI_1, xI_n, Option.bind_some, Int.natCast_add, Int.natCast_one, xI_zb, if_bI0, if_bI1, xI_rn, xI_ti, C.1.1.1, e0, e1, e2', ebc]) (s0 := h) ⟨R, MFr.rf⟩
  refine ⟨s, Eq.trans e1 ?_, C1, M1⟩
  show f_X11_spare_7 _ _ _ _ = _
  rw [e_X11_spare_7]
  simp (disch := omega) only [xI_le, xI_lt, xI_eq, xI_0, xI_ib, if_pos, if_neg, if_true, if_false, xI_cl, Int.toNat_natCast, iI_m, iI_a, iI_s, iI_1, xI_n, Option.bind_some, Int.natCast_add, Int.natCast_one, xI_zb, if_bI0, if_bI1, xI_rn, xI_ti, C1.1.1.1]
theorem mo_spare (ok : Ok st) (R : MoR h st) : ∃ h3, f_X12_spare h = some (iI (spN st.1 (st.1.1 0)).1, h3) ∧ MoR h3 st ∧ CFr h h3 := by
  have hv := ok.1.1
  have h8 := hv.1
  obtain ⟨s, e1, C1, M1⟩ := ch_rel (fun i s => f_X12_spare_11 (iI (spN st.1 i).1) (if i = 0 then iI 0 else iI (spN st.1 i).2) (iI i) s) (fun _ s => MoR s st ∧ CFr h s) (n := st.1.1 0) (fun i s hi hs => by
    obtain ⟨M, C⟩ := hs
    obtain ⟨h2, e2, M2, C2⟩ := m_crowdedWithout ok M hi
    have hb := spN_b st.1 h8.2.1 i
    have h7 : crN (dropA st.1 i) ≤ st.1.1 1 + 1 := crN_le (dropA st.1 i)
    refine ⟨h2, ?_, M2, C.tr C2⟩
    show f_X12_spare_11 _ _ _ _ = f_X12_spare_11 _ _ _ _
    rw [e_X12_spare_11, if_neg (show ¬ i + 1 = 0 by omega)]
    by_cases d : i = 0
    · subst d
      have c : ¬ (spN st.1 0).2 ≤ crN (dropA st.1 0) := by show ¬ 22 ≤ _; omega
      rw [show spN st.1 (0 + 1) = (((0 : Nat) : Int), crN (dropA st.1 0)) from if_neg c]
      have e3 : (spN st.1 0).1 = -1 := rfl
      rw [e3]
      simp (disch := omega) only [xI_le, xI_lt, xI_eq, xI_0, xI_ib, if_pos, if_neg, if_true, if_false, xI_cl, Int.toNat_natCast, iI_m, iI_a, iI_s, iI_1, xI_n, Option.bind_some, Int.natCast_add, Int.natCast_one, xI_zb, if_bI0, if_bI1, xI_rn, xI_ti, show (0 : Int).toNat = 0 from rfl, M.1.1.1.1, e2]
    · have h0 := hb.2.2.2 (by omega)
      rw [if_neg d]
      by_cases c : (spN st.1 i).2 ≤ crN (dropA st.1 i)
      · rw [show spN st.1 (i + 1) = spN st.1 i from if_pos c]
        simp (disch := omega) only [xI_le, xI_lt, xI_eq, xI_0, xI_ib, if_pos, if_neg, if_true, if_false, xI_cl, Int.toNat_natCast, iI_m, iI_a, iI_s, iI_1, xI_n, Option.bind_some, Int.natCast_add, Int.natCast_one, xI_zb, if_bI0, if_bI1, xI_rn, xI_ti, show (0 : Int).toNat = 0 from rfl, M.1.1.1.1, e2]
      · rw [show spN st.1 (i + 1) = ((i : Int), crN (dropA st.1 i)) from if_neg c]
        simp (disch := omega) only [xI_le, xI_lt, xI_eq, xI_0, xI_ib, if_pos, if_neg, if_true, if_false, xI_cl, Int.toNat_natCast, iI_m, iI_a, iI_s, iI_1, xI_n, Option.bind_some, Int.natCast_add, Int.natCast_one, xI_zb, if_bI0, if_bI1, xI_rn, xI_ti, show (0 : Int).toNat = 0 from rfl, M.1.1.1.1, e2]) (s0 := am_u h (.inl 0) 0 0 (iI 0)) ⟨R.code, CFr.code⟩
  refine ⟨s, Eq.trans e1 ?_, C1, M1⟩
  show f_X12_spare_11 _ _ _ _ = _
  rw [e_X12_spare_11]
  simp (disch := omega) only [xI_le, xI_lt, xI_eq, xI_0, xI_ib, if_pos, if_neg, if_true, if_false, xI_cl, Int.toNat_natCast, iI_m, iI_a, iI_s, iI_1, xI_n, Option.bind_some, Int.natCast_add, Int.natCast_one, xI_zb, if_bI0, if_bI1, xI_rn, xI_ti, show (0 : Int).toNat = 0 from rfl, C1.1.1.1.1]
theorem t_29 {L : Nat} {xs : Nat → Int32} {x4 : Int32} (ok : Ok st) (C : ClR h st) (M : MoR h st) : ∃ h', law_29 L xs x4 h = some h' ∧ ClR h' st ∧ MoR h' st := tyB_ok M (cl_spare ok C) (fun _ M2 => mo_spare ok M2)
end DRO
