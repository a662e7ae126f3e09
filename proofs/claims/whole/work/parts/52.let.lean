/-! letters, scratches, names, rooms, flourishes: told by both sides -/
section RDL
variable {h : am_H} {st : St}
theorem mo_nm.code {o : Nat} {v : pv_T} {x : Int32} (N : mo_nm h o v) : mo_nm (am_u h (.inl 0) 0 0 x) o v := N
/-- the reference's names -/
theorem nm_len {v : pv_T} (hv : pvA v) {q : Nat} (hq : q < v.1 2) : ∃ n, n ≤ 8 ∧ (∀ i, i < n → 97 ≤ nmf v q i ∧ nmf v q i ≤ 122) ∧ (∀ i, n ≤ i → i < 8 → nmf v q i = 0) ∧ pkN (nmf v q) 8 = pkN (nmf v q) n ∧ 1 ≤ n := by
  obtain ⟨n, h1, h2, h3, h4⟩ := hv.2.2 q hq
  exact ⟨n, h2, h3, h4, pkN_tail h2 h4, h1⟩
def oFl (st : St) (q i : Int) : Int32 ⊕ Nat := if 0 ≤ q ∧ q ≤ (st.1.1 2 : Int) - 1 then .inl (iI (if 0 ≤ i ∧ i ≤ 7 then st.1.2 14 (8 * q.toNat + i.toNat) else 0)) else .inr 2
theorem cl_flourishLetter (ok : Ok st) (R : ClR h st) {q i : Int} (hq : -2147483648 ≤ q ∧ q < 2147483648) (hi : -2147483648 ≤ i ∧ i < 2147483648) : clC (fun h => (f_X11_flourishLetter (iI q) (iI i) h).map (fun a => (a, h))) h st (oFl st q i) := by
  have hv := ok.1.1
  refine clC_r ?_ R
  unfold f_X11_flourishLetter oFl
  by_cases c : 0 ≤ q ∧ q ≤ (st.1.1 2 : Int) - 1
  · obtain ⟨n, rfl⟩ : ∃ n : Nat, q = n := ⟨q.toNat, by omega⟩
    rw [if_pos c]
    simp (disch := omega) only [xI_le, xI_lt, xI_eq, xI_0, xI_ib, if_pos, if_neg, if_true, if_false, xI_cl, Int.toNat_natCast, iI_m, iI_a, iI_s, iI_1, xI_n, Option.bind_some, Int.natCast_add, Int.natCast_one, xI_zb, if_bI0, if_bI1, xI_rn, xI_ti, k_hasKind hv R.1.2.2.1 hq, k_nameByte hv R.1.2.2.1 (q := n) (by omega) hi]
  · rw [if_neg c]
    simp (disch := omega) only [xI_le, xI_lt, xI_eq, xI_0, xI_ib, if_pos, if_neg, if_true, if_false, xI_cl, Int.toNat_natCast, iI_m, iI_a, iI_s, iI_1, xI_n, Option.bind_some, Int.natCast_add, Int.natCast_one, xI_zb, if_bI0, if_bI1, xI_rn, xI_ti, k_hasKind hv R.1.2.2.1 hq]
theorem mo_flourishLetter (ok : Ok st) (R : MoR h st) {q i : Int} (hq : -2147483648 ≤ q ∧ q < 2147483648) (hi : -2147483648 ≤ i ∧ i < 2147483648) : moC (f_X12_flourishLetter (iI q) (iI i)) h st (oFl st q i) ex2 := by
  have hv := ok.1.1
  have h8 := hv.1
  unfold oFl
  by_cases c : 0 ≤ q ∧ q ≤ (st.1.1 2 : Int) - 1
  · obtain ⟨k, rfl⟩ : ∃ n : Nat, q = n := ⟨q.toNat, by omega⟩
    rw [if_pos c]
    obtain ⟨n, h1, h2, h3, h4, -⟩ := nm_len ok.1 (q := k) (by omega)
    have hN : (am_u h (.inl 0) 0 0 (iI 0)).2.1 (.inl 0) 7 k = lN (pkN (nmf st.1 k) n) := by rw [← h4]; exact R.1.2 k (by omega)
    refine moC_c (c := iI 0) ?_ R agrv
    unfold f_X12_flourishLetter
    simp (disch := omega) only [xI_le, xI_lt, xI_eq, xI_0, xI_ib, if_pos, if_neg, if_true, if_false, xI_cl, Int.toNat_natCast, iI_m, iI_a, iI_s, iI_1, xI_n, Option.bind_some, Int.natCast_add, Int.natCast_one, xI_zb, if_bI0, if_bI1, xI_rn, xI_ti, m_isKind hv R.1.1 hq, m_goes1, hN, m_letterOf h1 h2 hi]
    have e : (if 0 ≤ i ∧ i ≤ (n : Int) - 1 then nmf st.1 k i.toNat else 0) = if 0 ≤ i ∧ i ≤ 7 then st.1.2 14 (8 * k + i.toNat) else 0 := by
      by_cases d : 0 ≤ i ∧ i ≤ 7
      · rw [if_pos d]
        by_cases g : 0 ≤ i ∧ i ≤ (n : Int) - 1
        · rw [if_pos g]
        · rw [if_neg g]
          exact (h3 i.toNat (by omega) (by omega)).symm
      · rw [if_neg d, if_neg (by omega)]
    rw [e]
  · rw [if_neg c]
    refine moC_c (b := iI 0) (c := iI 1) ?_ R agr2
    unfold f_X12_flourishLetter
    simp (disch := omega) only [xI_le, xI_lt, xI_eq, xI_0, xI_ib, if_pos, if_neg, if_true, if_false, xI_cl, Int.toNat_natCast, iI_m, iI_a, iI_s, iI_1, xI_n, Option.bind_some, Int.natCast_add, Int.natCast_one, xI_zb, if_bI0, if_bI1, xI_rn, xI_ti, m_isKind hv R.1.1 hq, m_goes0]
def oLet (st : St) (a t : Int) : Int32 ⊕ Nat := if 0 ≤ a ∧ a ≤ (st.1.1 1 : Int) - 1 then (if t = 0 then .inl (iI (st.1.2 5 a.toNat)) else if t = 1 then .inl (iI (1000 * pv_w st.1 a.toNat)) else if t = 2 then .inl (iI (pv_ct st.1 a.toNat)) else if t = 3 then .inl (iI (pv_cp st.1 a.toNat)) else if t = 4 then .inl (iI (pv_le st.1 a.toNat)) else if t = 5 then .inl (iI (pv_re st.1 a.toNat)) else if t = 6 then .inl (iI (pv_bT st.1 (pv_ct st.1 a.toNat) (st.1.1 0) % 3600)) else if t = 7 then .inl (iI (pv_ar st.1 (pv_ct st.1 a.toNat))) else if t = 8 then .inl (iI (st.1.2 6 a.toNat)) else if t = 9 then .inl (iI (bI (pv_iS st.1 a))) else if t = 10 then .inl (iI (1 + st.1.2 5 a.toNat % 4)) else if t = 11 then .inl (iI (st.1.2 7 a.toNat)) else if t = 12 then .inl (iI (cN (fun j => decide (st.1.2 12 j = a)) (st.1.1 3))) else .inr 1) else .inr 2
theorem k_isSp (hv : pv_ok st.1) (P : cl_pl h 0 st.1) {a : Int} (ha : -2147483648 ≤ a ∧ a < 2147483648) : ∃ h', f_X11_isSpoiled (iI a) h = some (iI (bI (pv_iS st.1 a)), h') ∧ Wr [(.inl 1, 4), (.inl 1, 3)] h h' := by
  obtain ⟨hm, em, Rl⟩ := k_measure hv P.1 P.2.1
  have wm := wr_X3_measure em
  have Pm := P.eq (wm.P (k := 0) (by simp))
  refine ⟨hm, ?_, wm⟩
  unfold f_X11_isSpoiled
  rw [em, Option.bind_some, k_isSpoiled hv Pm.2.1 Pm.2.2.2.2.1 Rl ha, Option.bind_some, if_pos (by rw [xI_zb]; trivial)]
theorem cl_letter (ok : Ok st) (R : ClR h st) {a t : Int} (ha : -2147483648 ≤ a ∧ a < 2147483648) (ht : -2147483648 ≤ t ∧ t < 2147483648) : clC (f_X11_letter (iI a) (iI t)) h st (oLet st a t) := by
  have hv := ok.1.1
  have h8 := hv.1
  have hw := pv_tW_b hv
  unfold oLet
  by_cases c : 0 ≤ a ∧ a ≤ (st.1.1 1 : Int) - 1
  · obtain ⟨n, rfl⟩ : ∃ n : Nat, a = n := ⟨a.toNat, by omega⟩
    have hn : n < st.1.1 1 := by omega
    have hr := R.1.2.1.2.1 n hn
    have hc := hv.2.2.1 n hn
    have hb := pv_ct_b hv hn
    rw [if_pos c]
    rcases (show t = 0 ∨ t = 1 ∨ t = 2 ∨ t = 3 ∨ t = 4 ∨ t = 5 ∨ t = 6 ∨ t = 7 ∨ t = 8 ∨ t = 9 ∨ t = 10 ∨ t = 11 ∨ t = 12 ∨ (t < 0 ∨ 12 < t) by omega) with rfl | rfl | rfl | rfl | rfl | rfl | rfl | rfl | rfl | rfl | rfl | rfl | rfl | d
    · refine clC_w (h1 := h) ?_ (Wr.rf (L := [])) rfl rfl R
      unfold f_X11_letter
      simp (disch := omega) only [xI_le, xI_lt, xI_eq, xI_0, xI_ib, if_pos, if_neg, if_true, if_false, xI_cl, Int.toNat_natCast, iI_m, iI_a, iI_s, iI_1, xI_n, Option.bind_some, Int.natCast_add, Int.natCast_one, xI_zb, if_bI0, if_bI1, xI_rn, xI_ti, k_hasLetter hv R.1.2.1 ha, hr.1]
    · refine clC_w (h1 := h) ?_ (Wr.rf (L := [])) rfl rfl R
      unfold f_X11_letter
      simp (disch := omega) only [xI_le, xI_lt, xI_eq, xI_0, xI_ib, if_pos, if_neg, if_true, if_false, xI_cl, Int.toNat_natCast, iI_m, iI_a, iI_s, iI_1, xI_n, Option.bind_some, Int.natCast_add, Int.natCast_one, xI_zb, if_bI0, if_bI1, xI_rn, xI_ti, k_hasLetter hv R.1.2.1 ha, k_partsOf hv R.1.2.1 hn]
    · refine clC_w (h1 := h) ?_ (Wr.rf (L := [])) rfl rfl R
      unfold f_X11_letter
      simp (disch := omega) only [xI_le, xI_lt, xI_eq, xI_0, xI_ib, if_pos, if_neg, if_true, if_false, xI_cl, Int.toNat_natCast, iI_m, iI_a, iI_s, iI_1, xI_n, Option.bind_some, Int.natCast_add, Int.natCast_one, xI_zb, if_bI0, if_bI1, xI_rn, xI_ti, k_hasLetter hv R.1.2.1 ha, k_centreTurn hv R.1.1 R.1.2.1 hn]
    · refine clC_w (h1 := h) ?_ (Wr.rf (L := [])) rfl rfl R
      unfold f_X11_letter
      simp (disch := omega) only [xI_le, xI_lt, xI_eq, xI_0, xI_ib, if_pos, if_neg, if_true, if_false, xI_cl, Int.toNat_natCast, iI_m, iI_a, iI_s, iI_1, xI_n, Option.bind_some, Int.natCast_add, Int.natCast_one, xI_zb, if_bI0, if_bI1, xI_rn, xI_ti, k_hasLetter hv R.1.2.1 ha, k_centreParts hv R.1.1 R.1.2.1 hn]
    · refine clC_w (h1 := h) ?_ (Wr.rf (L := [])) rfl rfl R
      unfold f_X11_letter
      simp (disch := omega) only [xI_le, xI_lt, xI_eq, xI_0, xI_ib, if_pos, if_neg, if_true, if_false, xI_cl, Int.toNat_natCast, iI_m, iI_a, iI_s, iI_1, xI_n, Option.bind_some, Int.natCast_add, Int.natCast_one, xI_zb, if_bI0, if_bI1, xI_rn, xI_ti, k_hasLetter hv R.1.2.1 ha, k_leftEdge hv R.1.1 R.1.2.1 hn]
    · refine clC_w (h1 := h) ?_ (Wr.rf (L := [])) rfl rfl R
      unfold f_X11_letter
      simp (disch := omega) only [xI_le, xI_lt, xI_eq, xI_0, xI_ib, if_pos, if_neg, if_true, if_false, xI_cl, Int.toNat_natCast, iI_m, iI_a, iI_s, iI_1, xI_n, Option.bind_some, Int.natCast_add, Int.natCast_one, xI_zb, if_bI0, if_bI1, xI_rn, xI_ti, k_hasLetter hv R.1.2.1 ha, k_rightEdge hv R.1.1 R.1.2.1 hn]
    · refine clC_w (h1 := h) ?_ (Wr.rf (L := [])) rfl rfl R
      unfold f_X11_letter
      simp (disch := omega) only [xI_le, xI_lt, xI_eq, xI_0, xI_ib, if_pos, if_neg, if_true, if_false, xI_cl, Int.toNat_natCast, iI_m, iI_a, iI_s, iI_1, xI_n, Option.bind_some, Int.natCast_add, Int.natCast_one, xI_zb, if_bI0, if_bI1, xI_rn, xI_ti, k_hasLetter hv R.1.2.1 ha, k_centreTurn hv R.1.1 R.1.2.1 hn, k_headingTo hv R.1.1 (t := pv_ct st.1 n) (by omega)]
    · refine clC_w (h1 := h) ?_ (Wr.rf (L := [])) rfl rfl R
      unfold f_X11_letter
      simp (disch := omega) only [xI_le, xI_lt, xI_eq, xI_0, xI_ib, if_pos, if_neg, if_true, if_false, xI_cl, Int.toNat_natCast, iI_m, iI_a, iI_s, iI_1, xI_n, Option.bind_some, Int.natCast_add, Int.natCast_one, xI_zb, if_bI0, if_bI1, xI_rn, xI_ti, k_hasLetter hv R.1.2.1 ha, k_arcUnder hv R.1.1 R.1.2.1 hn]
    · refine clC_w (h1 := h) ?_ (Wr.rf (L := [])) rfl rfl R
      unfold f_X11_letter
      by_cases q : st.1.2 6 n = 0
      · simp (disch := omega) only [xI_le, xI_lt, xI_eq, xI_0, xI_ib, if_pos, if_neg, if_true, if_false, xI_cl, Int.toNat_natCast, iI_m, iI_a, iI_s, iI_1, xI_n, Option.bind_some, Int.natCast_add, Int.natCast_one, xI_zb, if_bI0, if_bI1, xI_rn, xI_ti, k_hasLetter hv R.1.2.1 ha, hr.2.1, q]
      · simp (disch := omega) only [xI_le, xI_lt, xI_eq, xI_0, xI_ib, if_pos, if_neg, if_true, if_false, xI_cl, Int.toNat_natCast, iI_m, iI_a, iI_s, iI_1, xI_n, Option.bind_some, Int.natCast_add, Int.natCast_one, xI_zb, if_bI0, if_bI1, xI_rn, xI_ti, k_hasLetter hv R.1.2.1 ha, hr.2.1, show st.1.2 6 n = 1 from by omega]
    · obtain ⟨h1, e1, w1⟩ := k_isSp hv R.1 (a := n) ha
      refine clC_w (h1 := h1) ?_ w1 rfl rfl R
      unfold f_X11_letter
      by_cases q : pv_iS st.1 n
      · rw [show bI (pv_iS st.1 n) = 1 from if_pos q] at e1
        simp (disch := omega) only [xI_le, xI_lt, xI_eq, xI_0, xI_ib, if_pos, if_neg, if_true, if_false, xI_cl, Int.toNat_natCast, iI_m, iI_a, iI_s, iI_1, xI_n, Option.bind_some, Int.natCast_add, Int.natCast_one, xI_zb, if_bI0, if_bI1, xI_rn, xI_ti, k_hasLetter hv R.1.2.1 ha, e1]
      · rw [show bI (pv_iS st.1 n) = 0 from if_neg q] at e1
        simp (disch := omega) only [xI_le, xI_lt, xI_eq, xI_0, xI_ib, if_pos, if_neg, if_true, if_false, xI_cl, Int.toNat_natCast, iI_m, iI_a, iI_s, iI_1, xI_n, Option.bind_some, Int.natCast_add, Int.natCast_one, xI_zb, if_bI0, if_bI1, xI_rn, xI_ti, k_hasLetter hv R.1.2.1 ha, e1]
    · refine clC_w (h1 := h) ?_ (Wr.rf (L := [])) rfl rfl R
      unfold f_X11_letter
      simp (disch := omega) only [xI_le, xI_lt, xI_eq, xI_0, xI_ib, if_pos, if_neg, if_true, if_false, xI_cl, Int.toNat_natCast, iI_m, iI_a, iI_s, iI_1, xI_n, Option.bind_some, Int.natCast_add, Int.natCast_one, xI_zb, if_bI0, if_bI1, xI_rn, xI_ti, k_hasLetter hv R.1.2.1 ha, k_strokesOf hv R.1.2.1 hn]
    · refine clC_w (h1 := h) ?_ (Wr.rf (L := [])) rfl rfl R
      unfold f_X11_letter
      simp (disch := omega) only [xI_le, xI_lt, xI_eq, xI_0, xI_ib, if_pos, if_neg, if_true, if_false, xI_cl, Int.toNat_natCast, iI_m, iI_a, iI_s, iI_1, xI_n, Option.bind_some, Int.natCast_add, Int.natCast_one, xI_zb, if_bI0, if_bI1, xI_rn, xI_ti, k_hasLetter hv R.1.2.1 ha, hr.2.2]
    · refine clC_w (h1 := h) ?_ (Wr.rf (L := [])) rfl rfl R
      unfold f_X11_letter
      simp (disch := omega) only [xI_le, xI_lt, xI_eq, xI_0, xI_ib, if_pos, if_neg, if_true, if_false, xI_cl, Int.toNat_natCast, iI_m, iI_a, iI_s, iI_1, xI_n, Option.bind_some, Int.natCast_add, Int.natCast_one, xI_zb, if_bI0, if_bI1, xI_rn, xI_ti, k_hasLetter hv R.1.2.1 ha, k_countOf hv R.1.2.2.2.2.1 (l := n) ha]
    · rw [if_neg (by omega), if_neg (by omega), if_neg (by omega), if_neg (by omega), if_neg (by omega), if_neg (by omega), if_neg (by omega), if_neg (by omega), if_neg (by omega), if_neg (by omega), if_neg (by omega), if_neg (by omega), if_neg (by omega)] 
      refine clC_w (h1 := h) ?_ (Wr.rf (L := [])) rfl rfl R
      unfold f_X11_letter
      simp (disch := omega) only [xI_le, xI_lt, xI_eq, xI_0, xI_ib, if_pos, if_neg, if_true, if_false, xI_cl, Int.toNat_natCast, iI_m, iI_a, iI_s, iI_1, xI_n, Option.bind_some, Int.natCast_add, Int.natCast_one, xI_zb, if_bI0, if_bI1, xI_rn, xI_ti, k_hasLetter hv R.1.2.1 ha]
  · rw [if_neg c]
    refine clC_w (h1 := h) ?_ (Wr.rf (L := [])) rfl rfl R
    unfold f_X11_letter
    rw [k_hasLetter hv R.1.2.1 ha, Option.bind_some, show bI (0 ≤ a ∧ a ≤ (st.1.1 1 : Int) - 1) = 0 from if_neg c]
    exact if_pos rfl
theorem mo_letter (ok : Ok st) (R : MoR h st) {a t : Int} (ha : -2147483648 ≤ a ∧ a < 2147483648) (ht : -2147483648 ≤ t ∧ t < 2147483648) : moC (f_X12_letter (iI a) (iI t)) h st (oLet st a t) ex12 := by
  have hv := ok.1.1
  have h8 := hv.1
  have hw := pv_tW_b hv
  have Rc : mo_pl (am_u h (.inl 0) 0 0 (iI 0)) st.1 := mo_code R.1.1
  have hz : (12 : Int64).toInt = 12 := rfl
  unfold oLet
  by_cases c : 0 ≤ a ∧ a ≤ (st.1.1 1 : Int) - 1
  · obtain ⟨n, rfl⟩ : ∃ n : Nat, a = n := ⟨a.toNat, by omega⟩
    have hn : n < st.1.1 1 := by omega
    have hb := pv_ct_b hv hn
    rw [if_pos c]
    rcases (show t = 0 ∨ t = 1 ∨ t = 2 ∨ t = 3 ∨ t = 4 ∨ t = 5 ∨ t = 6 ∨ t = 7 ∨ t = 8 ∨ t = 9 ∨ t = 10 ∨ t = 11 ∨ t = 12 ∨ (t < 0 ∨ 12 < t) by omega) with rfl | rfl | rfl | rfl | rfl | rfl | rfl | rfl | rfl | rfl | rfl | rfl | rfl | d
    · refine moC_c (c := iI 0) ?_ R agrv
      unfold f_X12_letter
      simp (disch := omega) only [xI_le, xI_lt, xI_eq, xI_0, xI_ib, if_pos, if_neg, if_true, if_false, xI_cl, Int.toNat_natCast, iI_m, iI_a, iI_s, iI_1, xI_n, Option.bind_some, Int.natCast_add, Int.natCast_one, xI_zb, if_bI0, if_bI1, xI_rn, xI_ti, m_isLetter0 hv R.1.1 ha, m_isInz (n := 0) hz (by omega), m_gB1, m_ofL0 hv Rc hn]
    · refine moC_c (c := iI 0) ?_ R agrv
      unfold f_X12_letter
      simp (disch := omega) only [xI_le, xI_lt, xI_eq, xI_0, xI_ib, if_pos, if_neg, if_true, if_false, xI_cl, Int.toNat_natCast, iI_m, iI_a, iI_s, iI_1, xI_n, Option.bind_some, Int.natCast_add, Int.natCast_one, xI_zb, if_bI0, if_bI1, xI_rn, xI_ti, m_isLetter0 hv R.1.1 ha, m_isInz (n := 1) hz (by omega), m_gB1, m_widthOf hv Rc hn]
    · refine moC_c (c := iI 0) ?_ R agrv
      unfold f_X12_letter
      simp (disch := omega) only [xI_le, xI_lt, xI_eq, xI_0, xI_ib, if_pos, if_neg, if_true, if_false, xI_cl, Int.toNat_natCast, iI_m, iI_a, iI_s, iI_1, xI_n, Option.bind_some, Int.natCast_add, Int.natCast_one, xI_zb, if_bI0, if_bI1, xI_rn, xI_ti, m_isLetter0 hv R.1.1 ha, m_isInz (n := 2) hz (by omega), m_gB1, m_centre hv Rc hn]
    · refine moC_c (c := iI 0) ?_ R agrv
      unfold f_X12_letter
      simp (disch := omega) only [xI_le, xI_lt, xI_eq, xI_0, xI_ib, if_pos, if_neg, if_true, if_false, xI_cl, Int.toNat_natCast, iI_m, iI_a, iI_s, iI_1, xI_n, Option.bind_some, Int.natCast_add, Int.natCast_one, xI_zb, if_bI0, if_bI1, xI_rn, xI_ti, m_isLetter0 hv R.1.1 ha, m_isInz (n := 3) hz (by omega), m_gB1, m_centre hv Rc hn, m_partsOf hv Rc hb.1 hb.2.1]
      rfl
    · refine moC_c (c := iI 0) ?_ R agrv
      unfold f_X12_letter
      simp (disch := omega) only [xI_le, xI_lt, xI_eq, xI_0, xI_ib, if_pos, if_neg, if_true, if_false, xI_cl, Int.toNat_natCast, iI_m, iI_a, iI_s, iI_1, xI_n, Option.bind_some, Int.natCast_add, Int.natCast_one, xI_zb, if_bI0, if_bI1, xI_rn, xI_ti, m_isLetter0 hv R.1.1 ha, m_isInz (n := 4) hz (by omega), m_gB1, m_leftOf hv Rc hn]
    · refine moC_c (c := iI 0) ?_ R agrv
      unfold f_X12_letter
      simp (disch := omega) only [xI_le, xI_lt, xI_eq, xI_0, xI_ib, if_pos, if_neg, if_true, if_false, xI_cl, Int.toNat_natCast, iI_m, iI_a, iI_s, iI_1, xI_n, Option.bind_some, Int.natCast_add, Int.natCast_one, xI_zb, if_bI0, if_bI1, xI_rn, xI_ti, m_isLetter0 hv R.1.1 ha, m_isInz (n := 5) hz (by omega), m_gB1, m_rightOf hv Rc hn]
    · refine moC_c (c := iI 0) ?_ R agrv
      unfold f_X12_letter
      simp (disch := omega) only [xI_le, xI_lt, xI_eq, xI_0, xI_ib, if_pos, if_neg, if_true, if_false, xI_cl, Int.toNat_natCast, iI_m, iI_a, iI_s, iI_1, xI_n, Option.bind_some, Int.natCast_add, Int.natCast_one, xI_zb, if_bI0, if_bI1, xI_rn, xI_ti, m_isLetter0 hv R.1.1 ha, m_isInz (n := 6) hz (by omega), m_gB1, m_centre hv Rc hn, m_headingOf hv Rc (t := pv_ct st.1 n) (by omega)]
    · refine moC_c (c := iI 0) ?_ R agrv
      unfold f_X12_letter
      simp (disch := omega) only [xI_le, xI_lt, xI_eq, xI_0, xI_ib, if_pos, if_neg, if_true, if_false, xI_cl, Int.toNat_natCast, iI_m, iI_a, iI_s, iI_1, xI_n, Option.bind_some, Int.natCast_add, Int.natCast_one, xI_zb, if_bI0, if_bI1, xI_rn, xI_ti, m_isLetter0 hv R.1.1 ha, m_isInz (n := 7) hz (by omega), m_gB1, m_centre hv Rc hn, m_arcOf hv Rc (t := pv_ct st.1 n) (by omega)]
    · refine moC_c (c := iI 0) ?_ R agrv
      unfold f_X12_letter
      simp (disch := omega) only [xI_le, xI_lt, xI_eq, xI_0, xI_ib, if_pos, if_neg, if_true, if_false, xI_cl, Int.toNat_natCast, iI_m, iI_a, iI_s, iI_1, xI_n, Option.bind_some, Int.natCast_add, Int.natCast_one, xI_zb, if_bI0, if_bI1, xI_rn, xI_ti, m_isLetter0 hv R.1.1 ha, m_isInz (n := 8) hz (by omega), m_gB1, m_ofL1 hv Rc hn]
    · refine moC_c (c := iI 0) ?_ R agrv
      unfold f_X12_letter
      by_cases q : pv_iS st.1 n
      · have e1 := m_isSpoiled hv Rc (l := n) ha
        rw [show bI (pv_iS st.1 n) = 1 from if_pos q] at e1
        rw [show bI (pv_iS st.1 (n : Int)) = 1 from if_pos q]
        simp (disch := omega) only [xI_le, xI_lt, xI_eq, xI_0, xI_ib, if_pos, if_neg, if_true, if_false, xI_cl, Int.toNat_natCast, iI_m, iI_a, iI_s, iI_1, xI_n, Option.bind_some, Int.natCast_add, Int.natCast_one, xI_zb, if_bI0, if_bI1, xI_rn, xI_ti, m_isLetter0 hv R.1.1 ha, m_isInz (n := 9) hz (by omega), m_gB1, e1, m_truth1]
      · have e1 := m_isSpoiled hv Rc (l := n) ha
        rw [show bI (pv_iS st.1 n) = 0 from if_neg q] at e1
        rw [show bI (pv_iS st.1 (n : Int)) = 0 from if_neg q]
        simp (disch := omega) only [xI_le, xI_lt, xI_eq, xI_0, xI_ib, if_pos, if_neg, if_true, if_false, xI_cl, Int.toNat_natCast, iI_m, iI_a, iI_s, iI_1, xI_n, Option.bind_some, Int.natCast_add, Int.natCast_one, xI_zb, if_bI0, if_bI1, xI_rn, xI_ti, m_isLetter0 hv R.1.1 ha, m_isInz (n := 9) hz (by omega), m_gB1, e1, m_truth0]
    · refine moC_c (c := iI 0) ?_ R agrv
      unfold f_X12_letter
      simp (disch := omega) only [xI_le, xI_lt, xI_eq, xI_0, xI_ib, if_pos, if_neg, if_true, if_false, xI_cl, Int.toNat_natCast, iI_m, iI_a, iI_s, iI_1, xI_n, Option.bind_some, Int.natCast_add, Int.natCast_one, xI_zb, if_bI0, if_bI1, xI_rn, xI_ti, m_isLetter0 hv R.1.1 ha, m_isInz (n := 10) hz (by omega), m_gB1, m_strokesOf hv Rc hn]
    · refine moC_c (c := iI 0) ?_ R agrv
      unfold f_X12_letter
      simp (disch := omega) only [xI_le, xI_lt, xI_eq, xI_0, xI_ib, if_pos, if_neg, if_true, if_false, xI_cl, Int.toNat_natCast, iI_m, iI_a, iI_s, iI_1, xI_n, Option.bind_some, Int.natCast_add, Int.natCast_one, xI_zb, if_bI0, if_bI1, xI_rn, xI_ti, m_isLetter0 hv R.1.1 ha, m_isInz (n := 11) hz (by omega), m_gB1, m_ofL2 hv Rc hn]
    · refine moC_c (c := iI 0) ?_ R agrv
      unfold f_X12_letter
      simp (disch := omega) only [xI_le, xI_lt, xI_eq, xI_0, xI_ib, if_pos, if_neg, if_true, if_false, xI_cl, Int.toNat_natCast, iI_m, iI_a, iI_s, iI_1, xI_n, Option.bind_some, Int.natCast_add, Int.natCast_one, xI_zb, if_bI0, if_bI1, xI_rn, xI_ti, m_isLetter0 hv R.1.1 ha, m_isInz (n := 12) hz (by omega), m_gB1, m_scratchesOf hv Rc (l := n) ha]
    · rw [if_neg (by omega), if_neg (by omega), if_neg (by omega), if_neg (by omega), if_neg (by omega), if_neg (by omega), if_neg (by omega), if_neg (by omega), if_neg (by omega), if_neg (by omega), if_neg (by omega), if_neg (by omega), if_neg (by omega)]
      refine moC_c (b := iI 0) (c := iI 2) ?_ R agr12b
      unfold f_X12_letter
      simp (disch := omega) only [xI_le, xI_lt, xI_eq, xI_0, xI_ib, if_pos, if_neg, if_true, if_false, xI_cl, Int.toNat_natCast, iI_m, iI_a, iI_s, iI_1, xI_n, Option.bind_some, Int.natCast_add, Int.natCast_one, xI_zb, if_bI0, if_bI1, xI_rn, xI_ti, m_isLetter0 hv R.1.1 ha, m_isInz (n := t) hz ht, m_gB2]
  · rw [if_neg c]
    refine moC_c (b := iI 0) (c := iI 1) ?_ R agr12a
    unfold f_X12_letter
    rw [m_isLetter0 hv R.1.1 ha, Option.bind_some, m_isInz (n := t) hz ht, Option.bind_some, show bI (0 ≤ a ∧ a ≤ (st.1.1 1 : Int) - 1) = 0 from if_neg c, m_gB0, Option.bind_some]
    exact if_pos rfl
def oScr (st : St) (a t : Int) : Int32 ⊕ Nat := if 0 ≤ a ∧ a ≤ (st.1.1 3 : Int) - 1 then (if t = 0 then .inl (iI (st.1.2 12 a.toNat)) else if t = 1 then .inl (iI (st.1.2 13 a.toNat)) else if t = 2 then .inl (iI (pv_sb st.1 a.toNat)) else .inr 1) else .inr 2
theorem cl_scratch (ok : Ok st) (R : ClR h st) {a t : Int} (ha : -2147483648 ≤ a ∧ a < 2147483648) (ht : -2147483648 ≤ t ∧ t < 2147483648) : clC (f_X11_scratch (iI a) (iI t)) h st (oScr st a t) := by
  have hv := ok.1.1
  have h8 := hv.1
  unfold oScr
  by_cases c : 0 ≤ a ∧ a ≤ (st.1.1 3 : Int) - 1
  · obtain ⟨n, rfl⟩ : ∃ n : Nat, a = n := ⟨a.toNat, by omega⟩
    have hn : n < st.1.1 3 := by omega
    have hr := R.1.2.2.2.2.1.2 n hn
    rw [if_pos c]
    rcases (show t = 0 ∨ t = 1 ∨ t = 2 ∨ (t < 0 ∨ 2 < t) by omega) with rfl | rfl | rfl | d
    · refine clC_w (h1 := h) ?_ (Wr.rf (L := [])) rfl rfl R
      unfold f_X11_scratch
      simp (disch := omega) only [xI_le, xI_lt, xI_eq, xI_0, xI_ib, if_pos, if_neg, if_true, if_false, xI_cl, Int.toNat_natCast, iI_m, iI_a, iI_s, iI_1, xI_n, Option.bind_some, Int.natCast_add, Int.natCast_one, xI_zb, if_bI0, if_bI1, xI_rn, xI_ti, k_hasScratch hv R.1.2.2.2.2.1 ha, hr.1]
    · refine clC_w (h1 := h) ?_ (Wr.rf (L := [])) rfl rfl R
      unfold f_X11_scratch
      simp (disch := omega) only [xI_le, xI_lt, xI_eq, xI_0, xI_ib, if_pos, if_neg, if_true, if_false, xI_cl, Int.toNat_natCast, iI_m, iI_a, iI_s, iI_1, xI_n, Option.bind_some, Int.natCast_add, Int.natCast_one, xI_zb, if_bI0, if_bI1, xI_rn, xI_ti, k_hasScratch hv R.1.2.2.2.2.1 ha, hr.2]
    · obtain ⟨hm, em, Rl⟩ := k_measure hv R.1.1 R.1.2.1
      have wm := wr_X3_measure em
      have Pm := R.1.eq (wm.P (k := 0) (by simp))
      refine clC_w (h1 := hm) ?_ wm rfl rfl R
      unfold f_X11_scratch f_X11_letterSpoiledBy
      simp (disch := omega) only [xI_le, xI_lt, xI_eq, xI_0, xI_ib, if_pos, if_neg, if_true, if_false, xI_cl, Int.toNat_natCast, iI_m, iI_a, iI_s, iI_1, xI_n, Option.bind_some, Int.natCast_add, Int.natCast_one, xI_zb, if_bI0, if_bI1, xI_rn, xI_ti, k_hasScratch hv R.1.2.2.2.2.1 ha, em, k_letterSpoiledBy hv Pm.2.1 Pm.2.2.2.2.1 Rl hn]
    · rw [if_neg (by omega), if_neg (by omega), if_neg (by omega)]
      refine clC_w (h1 := h) ?_ (Wr.rf (L := [])) rfl rfl R
      unfold f_X11_scratch
      simp (disch := omega) only [xI_le, xI_lt, xI_eq, xI_0, xI_ib, if_pos, if_neg, if_true, if_false, xI_cl, Int.toNat_natCast, iI_m, iI_a, iI_s, iI_1, xI_n, Option.bind_some, Int.natCast_add, Int.natCast_one, xI_zb, if_bI0, if_bI1, xI_rn, xI_ti, k_hasScratch hv R.1.2.2.2.2.1 ha]
  · rw [if_neg c]
    refine clC_w (h1 := h) ?_ (Wr.rf (L := [])) rfl rfl R
    unfold f_X11_scratch
    simp (disch := omega) only [xI_le, xI_lt, xI_eq, xI_0, xI_ib, if_pos, if_neg, if_true, if_false, xI_cl, Int.toNat_natCast, iI_m, iI_a, iI_s, iI_1, xI_n, Option.bind_some, Int.natCast_add, Int.natCast_one, xI_zb, if_bI0, if_bI1, xI_rn, xI_ti, k_hasScratch hv R.1.2.2.2.2.1 ha]
theorem mo_scratch (ok : Ok st) (R : MoR h st) {a t : Int} (ha : -2147483648 ≤ a ∧ a < 2147483648) (ht : -2147483648 ≤ t ∧ t < 2147483648) : moC (f_X12_scratch (iI a) (iI t)) h st (oScr st a t) ex12 := by
  have hv := ok.1.1
  have h8 := hv.1
  have Rc : mo_pl (am_u h (.inl 0) 0 0 (iI 0)) st.1 := mo_code R.1.1
  have hz : (2 : Int64).toInt = 2 := rfl
  unfold oScr
  by_cases c : 0 ≤ a ∧ a ≤ (st.1.1 3 : Int) - 1
  · obtain ⟨n, rfl⟩ : ∃ n : Nat, a = n := ⟨a.toNat, by omega⟩
    have hn : n < st.1.1 3 := by omega
    rw [if_pos c]
    rcases (show t = 0 ∨ t = 1 ∨ t = 2 ∨ (t < 0 ∨ 2 < t) by omega) with rfl | rfl | rfl | d
    · refine moC_c (c := iI 0) ?_ R agrv
      unfold f_X12_scratch
      simp (disch := omega) only [xI_le, xI_lt, xI_eq, xI_0, xI_ib, if_pos, if_neg, if_true, if_false, xI_cl, Int.toNat_natCast, iI_m, iI_a, iI_s, iI_1, xI_n, Option.bind_some, Int.natCast_add, Int.natCast_one, xI_zb, if_bI0, if_bI1, xI_rn, xI_ti, m_isScratch hv R.1.1 ha, m_isInz (n := 0) hz (by omega), m_gB1, m_ofS0 hv Rc hn]
    · refine moC_c (c := iI 0) ?_ R agrv
      unfold f_X12_scratch
      simp (disch := omega) only [xI_le, xI_lt, xI_eq, xI_0, xI_ib, if_pos, if_neg, if_true, if_false, xI_cl, Int.toNat_natCast, iI_m, iI_a, iI_s, iI_1, xI_n, Option.bind_some, Int.natCast_add, Int.natCast_one, xI_zb, if_bI0, if_bI1, xI_rn, xI_ti, m_isScratch hv R.1.1 ha, m_isInz (n := 1) hz (by omega), m_gB1, m_ofS1 hv Rc hn]
    · refine moC_c (c := iI 0) ?_ R agrv
      unfold f_X12_scratch
      simp (disch := omega) only [xI_le, xI_lt, xI_eq, xI_0, xI_ib, if_pos, if_neg, if_true, if_false, xI_cl, Int.toNat_natCast, iI_m, iI_a, iI_s, iI_1, xI_n, Option.bind_some, Int.natCast_add, Int.natCast_one, xI_zb, if_bI0, if_bI1, xI_rn, xI_ti, m_isScratch hv R.1.1 ha, m_isInz (n := 2) hz (by omega), m_gB1, m_spoiledBy hv Rc hn]
    · rw [if_neg (by omega), if_neg (by omega), if_neg (by omega)]
      refine moC_c (b := iI 0) (c := iI 2) ?_ R agr12b
      unfold f_X12_scratch
      simp (disch := omega) only [xI_le, xI_lt, xI_eq, xI_0, xI_ib, if_pos, if_neg, if_true, if_false, xI_cl, Int.toNat_natCast, iI_m, iI_a, iI_s, iI_1, xI_n, Option.bind_some, Int.natCast_add, Int.natCast_one, xI_zb, if_bI0, if_bI1, xI_rn, xI_ti, m_isScratch hv R.1.1 ha, m_isInz (n := t) hz ht, m_gB2]
  · rw [if_neg c]
    refine moC_c (b := iI 0) (c := iI 1) ?_ R agr12a
    unfold f_X12_scratch
    by_cases d : 0 ≤ t ∧ t ≤ 2
    · simp (disch := omega) only [xI_le, xI_lt, xI_eq, xI_0, xI_ib, if_pos, if_neg, if_true, if_false, xI_cl, Int.toNat_natCast, iI_m, iI_a, iI_s, iI_1, xI_n, Option.bind_some, Int.natCast_add, Int.natCast_one, xI_zb, if_bI0, if_bI1, xI_rn, xI_ti, m_isScratch hv R.1.1 ha, m_isInz (n := t) hz ht, m_gB01]
    · simp (disch := omega) only [xI_le, xI_lt, xI_eq, xI_0, xI_ib, if_pos, if_neg, if_true, if_false, xI_cl, Int.toNat_natCast, iI_m, iI_a, iI_s, iI_1, xI_n, Option.bind_some, Int.natCast_add, Int.natCast_one, xI_zb, if_bI0, if_bI1, xI_rn, xI_ti, m_isScratch hv R.1.1 ha, m_isInz (n := t) hz ht, m_gB00]
end RDL
