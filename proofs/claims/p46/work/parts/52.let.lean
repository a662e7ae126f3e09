/-! letters, scratches, names, rooms, flourishes: told by both sides -/
section RDL
variable {h : am_H} {st : St}
/-- the reference's names -/
theorem nm_len {v : pv_T} (hv : pvA v) {q : Nat} (hq : q < v.1 2) : ∃ n, n ≤ 8 ∧ (∀ i, i < n → 97 ≤ nmf v q i ∧ nmf v q i ≤ 122) ∧ (∀ i, n ≤ i → i < 8 → nmf v q i = 0) ∧ pkN (nmf v q) 8 = pkN (nmf v q) n ∧ 1 ≤ n := by
  obtain ⟨n, h1, h2, h3, h4⟩ := hv.2.2 q hq
  exact ⟨n, h2, h3, h4, pkN_tail h2 h4, h1⟩
def oFl (st : St) (q i : Int) : Int32 ⊕ Nat := if 0 ≤ q ∧ q ≤ (st.1.1 2 : Int) - 1 then .inl (iI (if 0 ≤ i ∧ i ≤ 7 then st.1.2 14 (8 * q.toNat + i.toNat) else 0)) else .inr 2
def oLet (st : St) (a t : Int) : Int32 ⊕ Nat := if 0 ≤ a ∧ a ≤ (st.1.1 1 : Int) - 1 then (if t = 0 then .inl (iI (st.1.2 5 a.toNat)) else if t = 1 then .inl (iI (1000 * pv_w st.1 a.toNat)) else if t = 2 then .inl (iI (pv_ct st.1 a.toNat)) else if t = 3 then .inl (iI (pv_cp st.1 a.toNat)) else if t = 4 then .inl (iI (pv_le st.1 a.toNat)) else if t = 5 then .inl (iI (pv_re st.1 a.toNat)) else if t = 6 then .inl (iI (pv_bT st.1 (pv_ct st.1 a.toNat) (st.1.1 0) % 3600)) else if t = 7 then .inl (iI (pv_ar st.1 (pv_ct st.1 a.toNat))) else if t = 8 then .inl (iI (st.1.2 6 a.toNat)) else if t = 9 then .inl (iI (bI (pv_iS st.1 a))) else if t = 10 then .inl (iI (1 + st.1.2 5 a.toNat % 4)) else if t = 11 then .inl (iI (st.1.2 7 a.toNat)) else if t = 12 then .inl (iI (cN (fun j => decide (st.1.2 12 j = a)) (st.1.1 3))) else .inr 1) else .inr 2
theorem k_isSp (hv : pv_ok st.1) (P : cl_pl h 0 st.1) {a : Int} (ha : -2147483648 ≤ a ∧ a < 2147483648) : ∃ h', f_X11_isSpoiled (iI a) h = some (iI (bI (pv_iS st.1 a)), h') ∧ Wr [(.inl 1, 4), (.inl 1, 3)] h h' := by
  obtain ⟨hm, em, Rl⟩ := k_measure hv P.1 P.2.1
  have wm := wr_X3_measure em
  have Pm := P.eq (wm.P (k := 0) (by simp))
  refine ⟨hm, ?_, wm⟩
  unfold f_X11_isSpoiled
  rw [em, Option.bind_some, k_isSpoiled hv Pm.2.1 Pm.2.2.2.2.1 Rl ha, Option.bind_some, if_pos (by rw [xI_zb]; trivial)]
theorem cl_letter (ok : Ok st) (R : ClR h st) {a t : Int} (ha : -2147483648 ≤ a ∧ a < 2147483648) (ht : -2147483648 ≤ t ∧ t < 2147483648) : clC (f_X11_letter (iI a) (iI t)) h st (oLet st a t) := by
  have hv := ok.1.1
  have h8 := hv.1
  have hw := pv_tW_b hv
  unfold oLet
  by_cases c : 0 ≤ a ∧ a ≤ (st.1.1 1 : Int) - 1
  · obtain ⟨n, rfl⟩ : ∃ n : Nat, a = n := ⟨a.toNat, by omega⟩
    have hn : n < st.1.1 1 := by omega
    have hr := R.1.2.1.2.1 n hn
    have hc := hv.2.2.1 n hn
    have hb := pv_ct_b hv hn
    rw [if_pos c]
    rcases (show t = 0 ∨ t = 1 ∨ t = 2 ∨ t = 3 ∨ t = 4 ∨ t = 5 ∨ t = 6 ∨ t = 7 ∨ t = 8 ∨ t = 9 ∨ t = 10 ∨ t = 11 ∨ t = 12 ∨ (t < 0 ∨ 12 < t) by omega) with rfl | rfl | rfl | rfl | rfl | rfl | rfl | rfl | rfl | rfl | rfl | rfl | rfl | d
    · refine clC_w (h1 := h) ?_ (Wr.rf (L := [])) rfl rfl R
      unfold f_X11_letter
      simp (disch := omega) only [xI_le, xI_lt, xI_eq, xI_0, xI_ib, if_pos, if_neg, if_true, if_false, xI_cl, Int.toNat_natCast, iI_m, iI_a, iI_s, iI_1, xI_n, Option.bind_some, Int.natCast_add, Int.natCast_one, xI_zb, if_bI0, if_bI1, xI_rn, xI_ti, k_hasLetter hv R.1.2.1 ha, hr.1]
    · refine clC_w (h1 := h) ?_ (Wr.rf (L := [])) rfl rfl R
      unfold f_X11_letter
      simp (disch := omega) only [xI_le, xI_lt, xI_eq, xI_0, xI_ib, if_pos, if_neg, if_true, if_false, xI_cl, Int.toNat_natCast, iI_m, iI_a, iI_s, iI_1, xI_n, Option.bind_some, Int.natCast_add, Int.natCast_one, xI_zb, if_bI0, if_bI1, xI_rn, xI_ti, k_hasLetter hv R.1.2.1 ha, k_partsOf hv R.1.2.1 hn]
    · refine clC_w (h1 := h) ?_ (Wr.rf (L := [])) rfl rfl R
      unfold f_X11_letter
      simp (disch := omega) only [xI_le, xI_lt, xI_eq, xI_0, xI_ib, if_pos, if_neg, if_true, if_false, xI_cl, Int.toNat_natCast, iI_m, iI_a, iI_s, iI_1, xI_n, Option.bind_some, Int.natCast_add, Int.natCast_one, xI_zb, if_bI0, if_bI1, xI_rn, xI_ti, k_hasLetter hv R.1.2.1 ha, k_centreTurn hv R.1.1 R.1.2.1 hn]
    · refine clC_w (h1 := h) ?_ (Wr.rf (L := [])) rfl rfl R
      unfold f_X11_letter
      simp (disch := omega) only [xI_le, xI_lt, xI_eq, xI_0, xI_ib, if_pos, if_neg, if_true, if_false, xI_cl, Int.toNat_natCast, iI_m, iI_a, iI_s, iI_1, xI_n, Option.bind_some, Int.natCast_add, Int.natCast_one, xI_zb, if_bI0, if_bI1, xI_rn, xI_ti, k_hasLetter hv R.1.2.1 ha, k_centreParts hv R.1.1 R.1.2.1 hn]
    · refine clC_w (h1 := h) ?_ (Wr.rf (L := [])) rfl rfl R
      unfold f_X11_letter
      simp (disch := omega) only [xI_le, xI_lt, xI_eq, xI_0, xI_ib, if_pos, if_neg, if_true, if_false, xI_cl, Int.toNat_natCast, iI_m, iI_a, iI_s, iI_1, xI_n, Option.bind_some, Int.natCast_add, Int.natCast_one, xI_zb, if_bI0, if_bI1, xI_rn, xI_ti, k_hasLetter hv R.1.2.1 ha, k_leftEdge hv R.1.1 R.1.2.1 hn]
    · refine clC_w (h1 := h) ?_ (Wr.rf (L := [])) rfl rfl R
      unfold f_X11_letter
      simp (disch := omega) only [xI_le, xI_lt, xI_eq, xI_0, xI_ib, if_pos, if_neg, if_true, if_false, xI_cl, Int.toNat_natCast, iI_m, iI_a, iI_s, iI_1, xI_n, Option.bind_some, Int.natCast_add, Int.natCast_one, xI_zb, if_bI0, if_bI1, xI_rn, xI_ti, k_hasLetter hv R.1.2.1 ha, k_rightEdge hv R.1.1 R.1.2.1 hn]
    · refine clC_w (h1 := h) ?_ (Wr.rf (L := [])) rfl rfl R
      unfold f_X11_letter
      simp (disch := omega) only [xI_le, xI_lt, xI_eq, xI_0, xI_ib, if_pos, if_neg, if_true, if_false, xI_cl, Int.toNat_natCast, iI_m, iI_a, iI_s, iI_1, xI_n, Option.bind_some, Int.natCast_add, Int.natCast_one, xI_zb, if_bI0, if_bI1, xI_rn, xI_ti, k_hasLetter hv R.1.2.1 ha, k_centreTurn hv R.1.1 R.1.2.1 hn, k_headingTo hv R.1.1 (t := pv_ct st.1 n) (by omega)]
    · refine clC_w (h1 := h) ?_ (Wr.rf (L := [])) rfl rfl R
      unfold f_X11_letter
      simp (disch := omega) only [xI_le, xI_lt, xI_eq, xI_0, xI_ib, if_pos, if_neg, if_true, if_false, xI_cl, Int.toNat_natCast, iI_m, iI_a, iI_s, iI_1, xI_n, Option.bind_some, Int.natCast_add, Int.natCast_one, xI_zb, if_bI0, if_bI1, xI_rn, xI_ti, k_hasLetter hv R.1.2.1 ha, k_arcUnder hv R.1.1 R.1.2.1 hn]
    · refine clC_w (h1 := h) ?_ (Wr.rf (L := [])) rfl rfl R
      unfold f_X11_letter
      by_cases q : st.1.2 6 n = 0
      · simp (disch := omega) only [xI_le, xI_lt, xI_eq, xI_0, xI_ib, if_pos, if_neg, if_true, if_false, xI_cl, Int.toNat_natCast, iI_m, iI_a, iI_s, iI_1, xI_n, Option.bind_some, Int.natCast_add, Int.natCast_one, xI_zb, if_bI0, if_bI1, xI_rn, xI_ti, k_hasLetter hv R.1.2.1 ha, hr.2.1, q]
      · simp (disch := omega) only [xI_le, xI_lt, xI_eq, xI_0, xI_ib, if_pos, if_neg, if_true, if_false, xI_cl, Int.toNat_natCast, iI_m, iI_a, iI_s, iI_1, xI_n, Option.bind_some, Int.natCast_add, Int.natCast_one, xI_zb, if_bI0, if_bI1, xI_rn, xI_ti, k_hasLetter hv R.1.2.1 ha, hr.2.1, show st.1.2 6 n = 1 from by omega]
    · obtain ⟨h1, e1, w1⟩ := k_isSp hv R.1 (a := n) ha
      refine clC_w (h1 := h1) ?_ w1 rfl rfl R
      unfold f_X11_letter
      by_cases q : pv_iS st.1 n
      · rw [show bI (pv_iS st.1 n) = 1 from if_pos q] at e1
        simp (disch := omega) only [xI_le, xI_lt, xI_eq, xI_0, xI_ib, if_pos, if_neg, if_true, if_false, xI_cl, Int.toNat_natCast, iI_m, iI_a, iI_s, iI_1, xI_n, Option.bind_some, Int.natCast_add, Int.natCast_one, xI_zb, if_bI0, if_bI1, xI_rn, xI_ti, k_hasLetter hv R.1.2.1 ha, e1]
      · rw [show bI (pv_iS st.1 n) = 0 from if_neg q] at e1
        simp (disch := omega) only [xI_le, xI_lt, xI_eq, xI_0, xI_ib, if_pos, if_neg, if_true, if_false, xI_cl, Int.toNat_natCast, iI_m, iI_a, iI_s, iI_1, xI_n, Option.bind_some, Int.natCast_add, Int.natCast_one, xI_zb, if_bI0, if_bI1, xI_rn, xI_ti, k_hasLetter hv R.1.2.1 ha, e1]
    · refine clC_w (h1 := h) ?_ (Wr.rf (L := [])) rfl rfl R
      unfold f_X11_letter
      simp (disch := omega) only [xI_le, xI_lt, xI_eq, xI_0, xI_ib, if_pos, if_neg, if_true, if_false, xI_cl, Int.toNat_natCast, iI_m, iI_a, iI_s, iI_1, xI_n, Option.bind_some, Int.natCast_add, Int.natCast_one, xI_zb, if_bI0, if_bI1, xI_rn, xI_ti, k_hasLetter hv R.1.2.1 ha, k_strokesOf hv R.1.2.1 hn]
    · refine clC_w (h1 := h) ?_ (Wr.rf (L := [])) rfl rfl R
      unfold f_X11_letter
      simp (disch := omega) only [xI_le, xI_lt, xI_eq, xI_0, xI_ib, if_pos, if_neg, if_true, if_false, xI_cl, Int.toNat_natCast, iI_m, iI_a, iI_s, iI_1, xI_n, Option.bind_some, Int.natCast_add, Int.natCast_one, xI_zb, if_bI0, if_bI1, xI_rn, xI_ti, k_hasLetter hv R.1.2.1 ha, hr.2.2]
    · refine clC_w (h1 := h) ?_ (Wr.rf (L := [])) rfl rfl R
      unfold f_X11_letter
      simp (disch := omega) only [xI_le, xI_lt, xI_eq, xI_0, xI_ib, if_pos, if_neg, if_true, if_false, xI_cl, Int.toNat_natCast, iI_m, iI_a, iI_s, iI_1, xI_n, Option.bind_some, Int.natCast_add, Int.natCast_one, xI_zb, if_bI0, if_bI1, xI_rn, xI_ti, k_hasLetter hv R.1.2.1 ha, k_countOf hv R.1.2.2.2.2.1 (l := n) ha]
    · rw [if_neg (by omega), if_neg (by omega), if_neg (by omega), if_neg (by omega), if_neg (by omega), if_neg (by omega), if_neg (by omega), if_neg (by omega), if_neg (by omega), if_neg (by omega), if_neg (by omega), if_neg (by omega), if_neg (by omega)] 
      refine clC_w (h1 := h) ?_ (Wr.rf (L := [])) rfl rfl R
      unfold f_X11_letter
      simp (disch := omega) only [xI_le, xI_lt, xI_eq, xI_0, xI_ib, if_pos, if_neg, if_true, if_false, xI_cl, Int.toNat_natCast, iI_m, iI_a, iI_s, iI_1, xI_n, Option.bind_some, Int.natCast_add, Int.natCast_one, xI_zb, if_bI0, if_bI1, xI_rn, xI_ti, k_hasLetter hv R.1.2.1 ha]
  · rw [if_neg c]
    refine clC_w (h1 := h) ?_ (Wr.rf (L := [])) rfl rfl R
    unfold f_X11_letter
    rw [k_hasLetter hv R.1.2.1 ha, Option.bind_some, show bI (0 ≤ a ∧ a ≤ (st.1.1 1 : Int) - 1) = 0 from if_neg c]
    exact if_pos rfl
def oScr (st : St) (a t : Int) : Int32 ⊕ Nat := if 0 ≤ a ∧ a ≤ (st.1.1 3 : Int) - 1 then (if t = 0 then .inl (iI (st.1.2 12 a.toNat)) else if t = 1 then .inl (iI (st.1.2 13 a.toNat)) else if t = 2 then .inl (iI (pv_sb st.1 a.toNat)) else .inr 1) else .inr 2
theorem cl_scratch (ok : Ok st) (R : ClR h st) {a t : Int} (ha : -2147483648 ≤ a ∧ a < 2147483648) (ht : -2147483648 ≤ t ∧ t < 2147483648) : clC (f_X11_scratch (iI a) (iI t)) h st (oScr st a t) := by
  have hv := ok.1.1
  have h8 := hv.1
  unfold oScr
  by_cases c : 0 ≤ a ∧ a ≤ (st.1.1 3 : Int) - 1
  · obtain ⟨n, rfl⟩ : ∃ n : Nat, a = n := ⟨a.toNat, by omega⟩
    have hn : n < st.1.1 3 := by omega
    have hr := R.1.2.2.2.2.1.2 n hn
    rw [if_pos c]
    rcases (show t = 0 ∨ t = 1 ∨ t = 2 ∨ (t < 0 ∨ 2 < t) by omega) with rfl | rfl | rfl | d
    · refine clC_w (h1 := h) ?_ (Wr.rf (L := [])) rfl rfl R
      unfold f_X11_scratch
      simp (disch := omega) only [xI_le, xI_lt, xI_eq, xI_0, xI_ib, if_pos, if_neg, if_true, if_false, xI_cl, Int.toNat_natCast, iI_m, iI_a, iI_s, iI_1, xI_n, Option.bind_some, Int.natCast_add, Int.natCast_one, xI_zb, if_bI0, if_bI1, xI_rn, xI_ti, k_hasScratch hv R.1.2.2.2.2.1 ha, hr.1]
    · refine clC_w (h1 := h) ?_ (Wr.rf (L := [])) rfl rfl R
      unfold f_X11_scratch
      simp (disch := omega) only [xI_le, xI_lt, xI_eq, xI_0, xI_ib, if_pos, if_neg, if_true, if_false, xI_cl, Int.toNat_natCast, iI_m, iI_a, iI_s, iI_1, xI_n, Option.bind_some, Int.natCast_add, Int.natCast_one, xI_zb, if_bI0, if_bI1, xI_rn, xI_ti, k_hasScratch hv R.1.2.2.2.2.1 ha, hr.2]
    · obtain ⟨hm, em, Rl⟩ := k_measure hv R.1.1 R.1.2.1
      have wm := wr_X3_measure em
      have Pm := R.1.eq (wm.P (k := 0) (by simp))
      refine clC_w (h1 := hm) ?_ wm rfl rfl R
      unfold f_X11_scratch f_X11_letterSpoiledBy
      simp (disch := omega) only [xI_le, xI_lt, xI_eq, xI_0, xI_ib, if_pos, if_neg, if_true, if_false, xI_cl, Int.toNat_natCast, iI_m, iI_a, iI_s, iI_1, xI_n, Option.bind_some, Int.natCast_add, Int.natCast_one, xI_zb, if_bI0, if_bI1, xI_rn, xI_ti, k_hasScratch hv R.1.2.2.2.2.1 ha, em, k_letterSpoiledBy hv Pm.2.1 Pm.2.2.2.2.1 Rl hn]
    · rw [if_neg (by omega), if_neg (by omega), if_neg (by omega)]
      refine clC_w (h1 := h) ?_ (Wr.rf (L := [])) rfl rfl R
      unfold f_X11_scratch
      simp (disch := omega) only [xI_le, xI_lt, xI_eq, xI_0, xI_ib, if_pos, if_neg, if_true, if_false, xI_cl, Int.toNat_natCast, iI_m, iI_a, iI_s, iI_1, xI_n, Option.bind_some, Int.natCast_add, Int.natCast_one, xI_zb, if_bI0, if_bI1, xI_rn, xI_ti, k_hasScratch hv R.1.2.2.2.2.1 ha]
  · rw [if_neg c]
    refine clC_w (h1 := h) ?_ (Wr.rf (L := [])) rfl rfl R
    unfold f_X11_scratch
    simp (disch := omega) only [xI_le, xI_lt, xI_eq, xI_0, xI_ib, if_pos, if_neg, if_true, if_false, xI_cl, Int.toNat_natCast, iI_m, iI_a, iI_s, iI_1, xI_n, Option.bind_some, Int.natCast_add, Int.natCast_one, xI_zb, if_bI0, if_bI1, xI_rn, xI_ti, k_hasScratch hv R.1.2.2.2.2.1 ha]
end RDL
