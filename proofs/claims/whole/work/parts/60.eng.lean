/-! strokes of the reference's -/
theorem mo_rw_g {f f' : Nat → Int32} {v : pv_T} {G : G4} (R : mo_rw f v) (e : ∀ j, j ≠ 3 → j ≠ 5 → j ≠ 6 → j ≠ 7 → f' j = f j) (e3 : f' 3 = iI G.1) (e5 : f' 5 = iI G.2.1) (e6 : f' 6 = iI G.2.2.1) (e7 : f' 7 = iI G.2.2.2) : mo_rw f' (setG v G) := by
  obtain ⟨⟨r0, r1, r2, r3, r4, r5, r6, r7, r8⟩, ra, rl, rw', rk, rs⟩ := R
  refine ⟨⟨(e 0 (by omega) (by omega) (by omega) (by omega)).trans r0, (e 1 (by omega) (by omega) (by omega) (by omega)).trans r1, (e 2 (by omega) (by omega) (by omega) (by omega)).trans r2, e3, (e 4 (by omega) (by omega) (by omega) (by omega)).trans r4, e5, e6, e7, (e 8 (by omega) (by omega) (by omega) (by omega)).trans r8⟩, fun i hi c hc => ?_, fun i hi c hc => ?_, fun i hi => ?_, fun i hi c hc => ?_, fun i hi c hc => ?_⟩
  · rw [setG_c (by omega), e _ (by omega) (by omega) (by omega) (by omega)]; exact ra i hi c hc
  · rw [setG_c (by omega), e _ (by omega) (by omega) (by omega) (by omega)]; exact rl i hi c hc
  · rw [setG_c (by omega), e _ (by omega) (by omega) (by omega) (by omega)]; exact rw' i hi
  · rw [setG_c (by omega), e _ (by omega) (by omega) (by omega) (by omega)]; exact rk i hi c hc
  · rw [setG_c (by omega), e _ (by omega) (by omega) (by omega) (by omega)]; exact rs i hi c hc
theorem mo_rw_s {f f' : Nat → Int32} {v : pv_T} {l : Nat} {r : Int} (R : mo_rw f v) (h0 : v.1 0 ≤ 8) (h1 : v.1 1 ≤ 20) (h2 : v.1 2 ≤ 6) (e : ∀ j, j ≠ 8 → j ≠ 148 + 2 * v.1 3 → j ≠ 148 + 2 * v.1 3 + 1 → f' j = f j) (e8 : f' 8 = iI ((v.1 3 : Int) + 1)) (ea : f' (148 + 2 * v.1 3) = iI l) (eb : f' (148 + 2 * v.1 3 + 1) = iI r) : mo_rw f' (addS v l r) := by
  obtain ⟨⟨r0, r1, r2, r3, r4, r5, r6, r7, r8⟩, ra, rl, rw', rk, rs⟩ := R
  refine ⟨⟨(e 0 (by omega) (by omega) (by omega)).trans r0, (e 1 (by omega) (by omega) (by omega)).trans r1, (e 2 (by omega) (by omega) (by omega)).trans r2, (e 3 (by omega) (by omega) (by omega)).trans r3, (e 4 (by omega) (by omega) (by omega)).trans r4, (e 5 (by omega) (by omega) (by omega)).trans r5, (e 6 (by omega) (by omega) (by omega)).trans r6, (e 7 (by omega) (by omega) (by omega)).trans r7, e8⟩, fun i hi c hc => ?_, fun i hi c hc => ?_, fun i hi => ?_, fun i hi c hc => ?_, fun i hi c hc => ?_⟩
  · have hi' : i < v.1 0 := hi
    rw [addS_c (by omega) (by omega), e _ (by omega) (by omega) (by omega)]; exact ra i hi c hc
  · have hi' : i < v.1 1 := hi
    rw [addS_c (by omega) (by omega), e _ (by omega) (by omega) (by omega)]; exact rl i hi c hc
  · rw [addS_c (by omega) (by omega), e _ (by omega) (by omega) (by omega)]; exact rw' i hi
  · have hi' : i < v.1 2 := hi
    rw [addS_c (by omega) (by omega), e _ (by omega) (by omega) (by omega)]; exact rk i hi c hc
  · have hi' : i < v.1 3 + 1 := hi
    have hc' : c = 0 ∨ c = 1 := by omega
    by_cases d : i = v.1 3
    · subst d
      rcases hc' with rfl | rfl
      · rw [Nat.add_zero, ea]
        show _ = iI (if v.1 3 = v.1 3 then (l : Int) else _)
        rw [if_pos rfl]
      · rw [eb]
        show _ = iI (if v.1 3 = v.1 3 then r else _)
        rw [if_pos rfl]
    · rw [e _ (by omega) (by omega) (by omega), rs i (by omega) c hc]
      rcases hc' with rfl | rfl
      · show _ = iI (if i = v.1 3 then (l : Int) else v.2 12 i)
        rw [if_neg d]
      · show _ = iI (if i = v.1 3 then r else v.2 13 i)
        rw [if_neg d]
theorem mo_w_of {h : am_H} {v : pv_T} (R : mo_pl h v) : mo_w h (pn v 3 0) := ⟨⟨R.1.1, R.1.2.1, trivial⟩, R.2.1, R.2.2.1, trivial⟩
section ENG
variable {h : am_H} {v : pv_T}
theorem m_hdL (hv : pvW v) (R : mo_pl h v) {j : Nat} (hj : j < v.1 1) : f_X12_hardness (iI j) h = some (iI (hdL v j)) := w_hardness hv.1 (mo_w_of R) hj
theorem m_stks (hv : pvW v) (R : mo_pl h v) {j : Nat} (hj : j < v.1 1) : f_X12_strokesOf (iI j) h = some (iI (1 + v.2 5 j % 4)) := w_strokesOf hv.1 (mo_w_of R) hj
theorem m_eng1 (hv : pvW v) (R : mo_pl h v) {j : Nat} (hj : j < v.1 1) : f_X12_ofLetter (iI j) (iI 1) h = some (iI (v.2 6 j)) := w_ofL1 hv.1 (mo_w_of R) hj
theorem m_draws {x n : Int} (r : h.1 (.inl 0) 2 5 = iI x) (hn : 0 < n ∧ n < 1000) : f_X12_draws (iI n) h = some (iI (rnd (lcg x) % n), am_u h (.inl 0) 2 5 (iI (lcg x))) := by
  have hb := rnd_b (lcg x)
  have c5 : (iI (5)).toNatClampNeg = 5 := rfl
  have i5 : ib (iI (5)) 408 := by rw [xI_ib (by omega) (by omega) (by omega)]; trivial
  unfold f_X12_draws
  rw [if_pos i5, if_pos i5, c5, r, lcg_e]
  show (if ib (iI 5) 408 then (if iI n = 0 then none else some (((((am_u h (.inl 0) 2 5 (iI (lcg x))).1 (.inl 0) 2 5).toUInt32 >>> ((iI (16)).toUInt32 &&& Int32.toUInt32 31)).toInt32) - ((((am_u h (.inl 0) 2 5 (iI (lcg x))).1 (.inl 0) 2 5).toUInt32 >>> ((iI (16)).toUInt32 &&& Int32.toUInt32 31)).toInt32) / iI n * iI n, am_u h (.inl 0) 2 5 (iI (lcg x)))) else none) = _
  rw [if_pos i5, au_s, if_pos rfl, rnd_e]
  simp (disch := omega) only [xI_le, xI_lt, xI_eq, xI_0, xI_ib, if_pos, if_neg, if_true, if_false, xI_cl, Int.toNat_natCast, iI_m, iI_a, iI_s, iI_1, xI_n, Option.bind_some, Int.natCast_add, Int.natCast_one, xI_zb, if_bI0, if_bI1, xI_rn, xI_ti]
theorem m_34 {s t : Int} (hs : 0 ≤ s ∧ s ≤ 99) (r3 : h.1 (.inl 0) 2 3 = iI s) (r7 : h.1 (.inl 0) 2 7 = iI t) : f_X12_strokes_34 h = some (am_u (am_u h (.inl 0) 2 7 (iI (t + 1))) (.inl 0) 2 3 (iI (shp s))) := by
  unfold f_X12_strokes_34 shp
  simp (disch := omega) only [xI_le, xI_lt, xI_eq, xI_0, xI_ib, if_pos, if_neg, if_true, if_false, xI_cl, Int.toNat_natCast, iI_m, iI_a, iI_s, iI_1, xI_n, Option.bind_some, Int.natCast_add, Int.natCast_one, xI_zb, if_bI0, if_bI1, xI_rn, xI_ti, show (7 : Int).toNat = 7 from rfl, show (3 : Int).toNat = 3 from rfl, r7, am_lt, au_s, r3, m_greater (a := 0) (b := s - 1) (by omega) (by omega)]
theorem m_scr {x sl : Int} {n j : Nat} (hn : n ≤ 123) (r5 : h.1 (.inl 0) 2 5 = iI x) (r6 : h.1 (.inl 0) 2 6 = iI sl) (r8 : h.1 (.inl 0) 2 8 = iI n) : f_X12_scratches (iI j) h = some (am_u (am_u (am_u (am_u (am_u h (.inl 0) 2 5 (iI (lcg x))) (.inl 0) 2 (148 + 2 * n) (iI j)) (.inl 0) 2 (148 + 2 * n + 1) (iI (100 * (1 + rnd (lcg x) % 20)))) (.inl 0) 2 8 (iI ((n : Int) + 1))) (.inl 0) 2 6 (iI (sl + 1))) := by
  have hb := rnd_b (lcg x)
  have e := m_draws (n := 20) r5 (by omega)
  unfold f_X12_scratches
  generalize lcg x = x2 at *
  generalize rnd x2 = d2 at *
  simp (disch := omega) only [xI_le, xI_lt, xI_eq, xI_0, xI_ib, if_pos, if_neg, if_true, if_false, xI_cl, Int.toNat_natCast, iI_m, iI_a, iI_s, iI_1, xI_n, Option.bind_some, Int.natCast_add, Int.natCast_one, xI_zb, if_bI0, if_bI1, xI_rn, xI_ti, e, show (8 : Int).toNat = 8 from rfl, show (6 : Int).toNat = 6 from rfl, am_lt, au_s, r8, r6, show (148 + 2 * (n : Int) + 0).toNat = 148 + 2 * n from by omega, show (148 + 2 * (n : Int) + 1).toNat = 148 + 2 * n + 1 from by omega]
theorem m_stroke1 (hv : pvW v) (R : mo_pl h v) {j : Nat} (hj : j < v.1 1) (c : hdL v j ≤ v.2 0 0) (es : stk (gvO v) (hdL v j) = (0, shp (v.2 0 0), v.2 0 2, v.2 0 3, v.2 0 4 + 1)) : ∃ h', f_X12_strokes (iI j) h = some h' ∧ mo_pl h' (stP v j) := by
  have hh := hv.h j
  have hg' : 0 ≤ v.2 0 0 ∧ v.2 0 0 ≤ 99 := hv.g
  have eh := m_hdL hv R hj
  obtain ⟨r0, r1, r2, r3, r4, r5, r6, r7, r8⟩ := R.1
  unfold stP
  rw [es, if_neg (show ¬ (0 : Int) < 0 by omega)]
  refine ⟨_, ?_, mo_rw_g R (f' := (am_u (am_u h (.inl 0) 2 7 (iI (v.2 0 4 + 1))) (.inl 0) 2 3 (iI (shp (v.2 0 0)))).1 (.inl 0) 2) (fun j h3 h5 h6 h7 => by rw [au_s, if_neg h3, au_s, if_neg h7]) (by rw [au_s, if_pos rfl]) (by rw [au_s, if_neg (by omega), au_s, if_neg (by omega)]; exact r5) (by rw [au_s, if_neg (by omega), au_s, if_neg (by omega)]; exact r6) (by rw [au_s, if_neg (by omega), au_s, if_pos rfl])⟩
  unfold f_X12_strokes
  simp (disch := omega) only [xI_le, xI_lt, xI_eq, xI_0, xI_ib, if_pos, if_neg, if_true, if_false, xI_cl, Int.toNat_natCast, iI_m, iI_a, iI_s, iI_1, xI_n, Option.bind_some, Int.natCast_add, Int.natCast_one, xI_zb, if_bI0, if_bI1, xI_rn, xI_ti, eh, show (3 : Int).toNat = 3 from rfl, r3]
  exact m_34 hg' r3 r7
theorem m_stroke2 (hv : pvW v) (R : mo_pl h v) {j : Nat} (hj : j < v.1 1) (c : ¬ hdL v j ≤ v.2 0 0) {x1 d1 : Int} (b1 : 0 ≤ d1 ∧ d1 ≤ 65535) (ed : f_X12_draws (iI 100) h = some (iI (d1 % 100), am_u h (.inl 0) 2 5 (iI x1))) (d : 2 * (hdL v j - v.2 0 0) ≤ d1 % 100) (es : stk (gvO v) (hdL v j) = (0, shp (v.2 0 0), x1, v.2 0 3, v.2 0 4 + 1)) : ∃ h', f_X12_strokes (iI j) h = some h' ∧ mo_pl h' (stP v j) := by
  have hh := hv.h j
  have hg' : 0 ≤ v.2 0 0 ∧ v.2 0 0 ≤ 99 := hv.g
  have eh := m_hdL hv R hj
  obtain ⟨r0, r1, r2, r3, r4, r5, r6, r7, r8⟩ := R.1
  unfold stP
  rw [es, if_neg (show ¬ (0 : Int) < 0 by omega)]
  refine ⟨_, ?_, mo_rw_g R (f' := (am_u (am_u (am_u h (.inl 0) 2 5 (iI x1)) (.inl 0) 2 7 (iI (v.2 0 4 + 1))) (.inl 0) 2 3 (iI (shp (v.2 0 0)))).1 (.inl 0) 2) (fun j h3 h5 h6 h7 => by rw [au_s, if_neg h3, au_s, if_neg h7, au_s, if_neg h5]) (by rw [au_s, if_pos rfl]) (by rw [au_s, if_neg (by omega), au_s, if_neg (by omega), au_s, if_pos rfl]) (by rw [au_s, if_neg (by omega), au_s, if_neg (by omega), au_s, if_neg (by omega)]; exact r6) (by rw [au_s, if_neg (by omega), au_s, if_pos rfl])⟩
  unfold f_X12_strokes
  simp (disch := omega) only [xI_le, xI_lt, xI_eq, xI_0, xI_ib, if_pos, if_neg, if_true, if_false, xI_cl, Int.toNat_natCast, iI_m, iI_a, iI_s, iI_1, xI_n, Option.bind_some, Int.natCast_add, Int.natCast_one, xI_zb, if_bI0, if_bI1, xI_rn, xI_ti, eh, show (3 : Int).toNat = 3 from rfl, r3, ed]
  exact m_34 hg' (by rw [au_s, if_neg (by omega)]; exact r3) (by rw [au_s, if_neg (by omega)]; exact r7)
theorem m_stroke3 (hv : pvW v) (R : mo_pl h v) {j : Nat} (hj : j < v.1 1) (c : ¬ hdL v j ≤ v.2 0 0) {x1 d1 x2 d2 : Int} (b1 : 0 ≤ d1 ∧ d1 ≤ 65535) (ed : f_X12_draws (iI 100) h = some (iI (d1 % 100), am_u h (.inl 0) 2 5 (iI x1))) (d : ¬ 2 * (hdL v j - v.2 0 0) ≤ d1 % 100) (b2 : 0 ≤ d2 ∧ d2 ≤ 65535) (em : f_X12_scratches (iI j) (am_u h (.inl 0) 2 5 (iI x1)) = some (am_u (am_u (am_u (am_u (am_u (am_u h (.inl 0) 2 5 (iI x1)) (.inl 0) 2 5 (iI x2)) (.inl 0) 2 (148 + 2 * v.1 3) (iI j)) (.inl 0) 2 (148 + 2 * v.1 3 + 1) (iI (100 * (1 + d2 % 20)))) (.inl 0) 2 8 (iI ((v.1 3 : Int) + 1))) (.inl 0) 2 6 (iI (v.2 0 3 + 1)))) (es : stk (gvO v) (hdL v j) = (100 * (1 + d2 % 20), shp (v.2 0 0), x2, v.2 0 3 + 1, v.2 0 4 + 1)) : ∃ h', f_X12_strokes (iI j) h = some h' ∧ mo_pl h' (stP v j) := by
  have hh := hv.h j
  have h8 := hv.1.1
  have hg' : 0 ≤ v.2 0 0 ∧ v.2 0 0 ≤ 99 := hv.g
  have eh := m_hdL hv R hj
  obtain ⟨r0, r1, r2, r3, r4, r5, r6, r7, r8⟩ := R.1
  unfold stP
  rw [es, if_pos (show 0 < 100 * (1 + d2 % 20) by omega)]
  have e34 := m_34 (h := (am_u (am_u (am_u (am_u (am_u (am_u h (.inl 0) 2 5 (iI x1)) (.inl 0) 2 5 (iI x2)) (.inl 0) 2 (148 + 2 * v.1 3) (iI j)) (.inl 0) 2 (148 + 2 * v.1 3 + 1) (iI (100 * (1 + d2 % 20)))) (.inl 0) 2 8 (iI ((v.1 3 : Int) + 1))) (.inl 0) 2 6 (iI (v.2 0 3 + 1)))) (s := v.2 0 0) (t := v.2 0 4) hg' (by rw [au_s, if_neg (by omega), au_s, if_neg (by omega), au_s, if_neg (by omega), au_s, if_neg (by omega), au_s, if_neg (by omega), au_s, if_neg (by omega)]; exact r3) (by rw [au_s, if_neg (by omega), au_s, if_neg (by omega), au_s, if_neg (by omega), au_s, if_neg (by omega), au_s, if_neg (by omega), au_s, if_neg (by omega)]; exact r7)
  refine ⟨_, Eq.trans ?_ e34, ?_⟩
  · unfold f_X12_strokes
    simp (disch := omega) only [xI_le, xI_lt, xI_eq, xI_0, xI_ib, if_pos, if_neg, if_true, if_false, xI_cl, Int.toNat_natCast, iI_m, iI_a, iI_s, iI_1, xI_n, Option.bind_some, Int.natCast_add, Int.natCast_one, xI_zb, if_bI0, if_bI1, xI_rn, xI_ti, eh, show (3 : Int).toNat = 3 from rfl, r3, ed, em]
  · generalize eh9 : (am_u (am_u (am_u (am_u (am_u (am_u (am_u (am_u h (.inl 0) 2 5 (iI x1)) (.inl 0) 2 5 (iI x2)) (.inl 0) 2 (148 + 2 * v.1 3) (iI j)) (.inl 0) 2 (148 + 2 * v.1 3 + 1) (iI (100 * (1 + d2 % 20)))) (.inl 0) 2 8 (iI ((v.1 3 : Int) + 1))) (.inl 0) 2 6 (iI (v.2 0 3 + 1))) (.inl 0) 2 7 (iI (v.2 0 4 + 1))) (.inl 0) 2 3 (iI (shp (v.2 0 0)))) = h9
    have k : ∀ i, h9.1 (.inl 0) 2 i = if i = 3 then iI (shp (v.2 0 0)) else if i = 7 then iI (v.2 0 4 + 1) else if i = 6 then iI (v.2 0 3 + 1) else if i = 8 then iI ((v.1 3 : Int) + 1) else if i = 148 + 2 * v.1 3 + 1 then iI (100 * (1 + d2 % 20)) else if i = 148 + 2 * v.1 3 then iI j else if i = 5 then iI x2 else if i = 5 then iI x1 else h.1 (.inl 0) 2 i := fun i => by
      subst eh9
      simp only [au_s]
    have R1 : mo_rw (fun i => if i = 3 then iI (shp (v.2 0 0)) else if i = 7 then iI (v.2 0 4 + 1) else if i = 6 then iI (v.2 0 3 + 1) else if i = 5 then iI x2 else h.1 (.inl 0) 2 i) (setG v (shp (v.2 0 0), x2, v.2 0 3 + 1, v.2 0 4 + 1)) := mo_rw_g R (fun j h3 h5 h6 h7 => by simp only [h3, h5, h6, h7, if_false]) (by simp) (by simp) (by simp) (by simp)
    refine mo_rw_s R1 h8.1 h8.2.1 h8.2.2.1 (fun i h1 h2 h3 => ?_) ?_ ?_ ?_
    · have h2' : ¬ i = 148 + 2 * v.1 3 := h2
      have h3' : ¬ i = 148 + 2 * v.1 3 + 1 := h3
      rw [k, if_neg h1, if_neg h2', if_neg h3']
      by_cases q : i = 5
      · rw [if_pos q, if_pos q]
      · rw [if_neg q, if_neg q, if_neg q]
    · rw [k, if_neg (by omega), if_neg (by omega), if_neg (by omega), if_pos rfl]; rfl
    · show h9.1 (.inl 0) 2 (148 + 2 * v.1 3) = _
      rw [k, if_neg (by omega), if_neg (by omega), if_neg (by omega), if_neg (by omega), if_neg (by omega), if_pos rfl]
    · show h9.1 (.inl 0) 2 (148 + 2 * v.1 3 + 1) = _
      rw [k, if_neg (by omega), if_neg (by omega), if_neg (by omega), if_neg (by omega), if_pos rfl]
theorem m_stroke (hv : pvW v) (hn : v.1 3 ≤ 123) (R : mo_pl h v) {j : Nat} (hj : j < v.1 1) : ∃ h', f_X12_strokes (iI j) h = some h' ∧ mo_pl h' (stP v j) := by
  obtain ⟨r0, r1, r2, r3, r4, r5, r6, r7, r8⟩ := R.1
  have ed := m_draws (n := 100) r5 (by omega)
  have b1 := rnd_b (lcg (v.2 0 2))
  have b2 := rnd_b (lcg (lcg (v.2 0 2)))
  have hstk : stk (gvO v) (hdL v j) = stk0 (gvO v) (hdL v j) (lcg (v.2 0 2)) (lcg (lcg (v.2 0 2))) (rnd (lcg (v.2 0 2))) (rnd (lcg (lcg (v.2 0 2)))) := rfl
  have em := m_scr (h := am_u h (.inl 0) 2 5 (iI (lcg (v.2 0 2)))) (x := lcg (v.2 0 2)) (sl := v.2 0 3) (n := v.1 3) (j := j) hn (by rw [au_s, if_pos rfl]) (by rw [au_s, if_neg (by decide)]; exact r6) (by rw [au_s, if_neg (by decide)]; exact r8)
  by_cases c : hdL v j ≤ v.2 0 0
  · exact m_stroke1 hv R hj c (by rw [hstk]; exact if_pos c)
  · by_cases d : 2 * (hdL v j - v.2 0 0) ≤ rnd (lcg (v.2 0 2)) % 100
    · exact m_stroke2 hv R hj c b1 ed d (by rw [hstk]; exact (if_neg c).trans (if_pos d))
    · exact m_stroke3 hv R hj c b1 ed d b2 em (by rw [hstk]; exact (if_neg c).trans (if_neg d))
end ENG
