/-! rooms, flourishes, means: told by both sides -/
section ROO
variable {h : am_H} {st : St}
def oRoom (st : St) (r : Int) : Int32 ⊕ Nat := if 0 ≤ r ∧ r ≤ (st.1.1 1 : Int) then .inl (iI (pv_rm st.1 r.toNat)) else .inr 2
theorem cl_room (ok : Ok st) (R : ClR h st) {r : Int} (hr : -2147483648 ≤ r ∧ r < 2147483648) : clC (f_X11_room (iI r)) h st (oRoom st r) := by
  have hv := ok.1.1
  have h8 := hv.1
  unfold oRoom
  by_cases c : 0 ≤ r ∧ r ≤ (st.1.1 1 : Int)
  · obtain ⟨n, rfl⟩ : ∃ n : Nat, r = n := ⟨r.toNat, by omega⟩
    rw [if_pos c]
    obtain ⟨hm, em, Rl⟩ := k_measure hv R.1.1 R.1.2.1
    refine clC_w (h1 := hm) ?_ (wr_X3_measure em) rfl rfl R
    unfold f_X11_room
    simp (disch := omega) only [xI_le, xI_lt, xI_eq, xI_0, xI_ib, if_pos, if_neg, if_true, if_false, xI_cl, Int.toNat_natCast, iI_m, iI_a, iI_s, iI_1, xI_n, Option.bind_some, Int.natCast_add, Int.natCast_one, xI_zb, if_bI0, if_bI1, xI_rn, xI_ti, k_hasRoom hv R.1.2.1 hr, em, Rl.2 n (by omega)]
  · rw [if_neg c]
    refine clC_w (h1 := h) ?_ (Wr.rf (L := [])) rfl rfl R
    unfold f_X11_room
    simp (disch := omega) only [xI_le, xI_lt, xI_eq, xI_0, xI_ib, if_pos, if_neg, if_true, if_false, xI_cl, Int.toNat_natCast, iI_m, iI_a, iI_s, iI_1, xI_n, Option.bind_some, Int.natCast_add, Int.natCast_one, xI_zb, if_bI0, if_bI1, xI_rn, xI_ti, k_hasRoom hv R.1.2.1 hr]
theorem cl_crowded (ok : Ok st) (R : ClR h st) : ∃ h1, f_X11_crowded h = some (pv_crS st.1 (st.1.1 1 + 1), h1) ∧ ClR h1 st ∧ MFr h h1 := by
  have hv := ok.1.1
  obtain ⟨hm, em, Rl⟩ := k_measure hv R.1.1 R.1.2.1
  have wm := wr_X3_measure em
  have Pm := R.1.eq (wm.P (k := 0) (by simp))
  refine ⟨hm, ?_, ClR.wr wm rfl R, wm.MF rfl⟩
  unfold f_X11_crowded
  rw [em, Option.bind_some, Pm.2.2.2.2.2, k_crowdedRooms hv Rl, Option.bind_some]
theorem cl_tightest (ok : Ok st) (R : ClR h st) : ∃ h1, f_X11_tightest h = some (iI (pv_ti st.1 (st.1.1 1 + 1)), h1) ∧ ClR h1 st ∧ MFr h h1 := by
  have hv := ok.1.1
  obtain ⟨hm, em, Rl⟩ := k_measure hv R.1.1 R.1.2.1
  have wm := wr_X3_measure em
  refine ⟨hm, ?_, ClR.wr wm rfl R, wm.MF rfl⟩
  unfold f_X11_tightest
  rw [em, Option.bind_some, k_tightestRoom hv Rl, Option.bind_some]
theorem cl_worth (ok : Ok st) (R : ClR h st) : ∃ h1, f_X11_worth h = some (iI (pv_wo st.1 (pv_fs st.1 (st.1.1 1 + 1)) (st.1.1 1 + 1)), h1) ∧ ClR h1 st ∧ MFr h h1 := by
  have hv := ok.1.1
  obtain ⟨hm, em, Rl, Rf⟩ := k_fill hv R.1
  have wm := wr_X3_fill em
  refine ⟨hm, ?_, ClR.wr wm rfl R, wm.MF rfl⟩
  unfold f_X11_worth
  rw [em, Option.bind_some, k_worthOfFillings hv (R.1.eq (wm.P (k := 0) (by simp))) Rl Rf (pv_fs_ok hv _ (Nat.le_refl _)).2.1, Option.bind_some]
def oFi (st : St) (r : Int) : Int32 ⊕ Nat := if 0 ≤ r ∧ r ≤ (st.1.1 1 : Int) then .inl (iI ((pv_fs st.1 (st.1.1 1 + 1)).2.1 r.toNat)) else .inr 2
theorem cl_flourishIn (ok : Ok st) (R : ClR h st) {r : Int} (hr : -2147483648 ≤ r ∧ r < 2147483648) : clC (f_X11_flourishIn (iI r)) h st (oFi st r) := by
  have hv := ok.1.1
  have h8 := hv.1
  unfold oFi
  by_cases c : 0 ≤ r ∧ r ≤ (st.1.1 1 : Int)
  · obtain ⟨n, rfl⟩ : ∃ n : Nat, r = n := ⟨r.toNat, by omega⟩
    rw [if_pos c]
    obtain ⟨hm, em, Rl, Rf⟩ := k_fill hv R.1
    refine clC_w (h1 := hm) ?_ (wr_X3_fill em) rfl rfl R
    unfold f_X11_flourishIn
    simp (disch := omega) only [xI_le, xI_lt, xI_eq, xI_0, xI_ib, if_pos, if_neg, if_true, if_false, xI_cl, Int.toNat_natCast, iI_m, iI_a, iI_s, iI_1, xI_n, Option.bind_some, Int.natCast_add, Int.natCast_one, xI_zb, if_bI0, if_bI1, xI_rn, xI_ti, k_hasRoom hv R.1.2.1 hr, em, (Rf.1 n (by omega)).2]
  · rw [if_neg c]
    refine clC_w (h1 := h) ?_ (Wr.rf (L := [])) rfl rfl R
    unfold f_X11_flourishIn
    simp (disch := omega) only [xI_le, xI_lt, xI_eq, xI_0, xI_ib, if_pos, if_neg, if_true, if_false, xI_cl, Int.toNat_natCast, iI_m, iI_a, iI_s, iI_1, xI_n, Option.bind_some, Int.natCast_add, Int.natCast_one, xI_zb, if_bI0, if_bI1, xI_rn, xI_ti, k_hasRoom hv R.1.2.1 hr]
def oSl (st : St) (q : Int) : Int32 ⊕ Nat := if 0 ≤ q ∧ q ≤ (st.1.1 2 : Int) - 1 then .inl (iI ((pv_fs st.1 (st.1.1 1 + 1)).2.2 q.toNat)) else .inr 2
theorem cl_stockLeft (ok : Ok st) (R : ClR h st) {r : Int} (hr : -2147483648 ≤ r ∧ r < 2147483648) : clC (f_X11_stockLeft (iI r)) h st (oSl st r) := by
  have hv := ok.1.1
  have h8 := hv.1
  unfold oSl
  by_cases c : 0 ≤ r ∧ r ≤ (st.1.1 2 : Int) - 1
  · obtain ⟨n, rfl⟩ : ∃ n : Nat, r = n := ⟨r.toNat, by omega⟩
    rw [if_pos c]
    obtain ⟨hm, em, Rl, Rf⟩ := k_fill hv R.1
    refine clC_w (h1 := hm) ?_ (wr_X3_fill em) rfl rfl R
    unfold f_X11_stockLeft
    simp (disch := omega) only [xI_le, xI_lt, xI_eq, xI_0, xI_ib, if_pos, if_neg, if_true, if_false, xI_cl, Int.toNat_natCast, iI_m, iI_a, iI_s, iI_1, xI_n, Option.bind_some, Int.natCast_add, Int.natCast_one, xI_zb, if_bI0, if_bI1, xI_rn, xI_ti, k_hasKind hv R.1.2.2.1 hr, em, Rf.2 n (by omega)]
  · rw [if_neg c]
    refine clC_w (h1 := h) ?_ (Wr.rf (L := [])) rfl rfl R
    unfold f_X11_stockLeft
    simp (disch := omega) only [xI_le, xI_lt, xI_eq, xI_0, xI_ib, if_pos, if_neg, if_true, if_false, xI_cl, Int.toNat_natCast, iI_m, iI_a, iI_s, iI_1, xI_n, Option.bind_some, Int.natCast_add, Int.natCast_one, xI_zb, if_bI0, if_bI1, xI_rn, xI_ti, k_hasKind hv R.1.2.2.1 hr]
def pv_dg (v : pv_T) (j : Nat) : Int := if 2 * (pv_hd v (pv_ct v j) - v.2 0 0) < 0 then 0 else if 100 < 2 * (pv_hd v (pv_ct v j) - v.2 0 0) then 100 else 2 * (pv_hd v (pv_ct v j) - v.2 0 0)
theorem pv_hd_b {v : pv_T} (hv : pv_ok v) (t : Int) : 0 ≤ pv_hd v t ∧ pv_hd v t ≤ 99 := by
  have h1 := pv_ar_b v t
  unfold pv_hd
  split
  · have := hv.2.1 (pv_ar v t).toNat (by omega)
    omega
  · omega
def oDg (st : St) (a : Int) : Int32 ⊕ Nat := if 0 ≤ a ∧ a ≤ (st.1.1 1 : Int) - 1 then .inl (iI (pv_dg st.1 a.toNat)) else .inr 2
theorem cl_danger (ok : Ok st) (R : ClR h st) {r : Int} (hr : -2147483648 ≤ r ∧ r < 2147483648) : clC (fun h => (f_X11_danger (iI r) h).map (fun a => (a, h))) h st (oDg st r) := by
  have hv := ok.1.1
  have h8 := hv.1
  have hg := hv.2.2.2.2.2.2
  refine clC_r ?_ R
  unfold oDg f_X11_danger
  by_cases c : 0 ≤ r ∧ r ≤ (st.1.1 1 : Int) - 1
  · obtain ⟨n, rfl⟩ : ∃ n : Nat, r = n := ⟨r.toNat, by omega⟩
    have hb := pv_hd_b hv (pv_ct st.1 n)
    rw [if_pos c]
    have hm : -2147483648 ≤ (if 100 ≤ 2 * (pv_hd st.1 (pv_ct st.1 n) - st.1.2 0 0) then 100 else 2 * (pv_hd st.1 (pv_ct st.1 n) - st.1.2 0 0)) ∧ (if 100 ≤ 2 * (pv_hd st.1 (pv_ct st.1 n) - st.1.2 0 0) then 100 else 2 * (pv_hd st.1 (pv_ct st.1 n) - st.1.2 0 0)) < 2147483648 := by split <;> omega
    rw [k_hasLetter hv R.1.2.1 hr, Option.bind_some, show bI (0 ≤ (n : Int) ∧ (n : Int) ≤ (st.1.1 1 : Int) - 1) = 1 from if_pos c, if_neg (by decide), k_hardnessUnder hv R.1.1 R.1.2.1 (j := n) (by omega), Option.bind_some, R.1.2.2.2.1.1, iI_s, iI_m, k_min (by omega) (by omega), Option.bind_some, k_max (by omega) hm, Option.bind_some]
    congr 3
    rw [Int.toNat_natCast]
    unfold pv_dg
    split <;> (repeat' split) <;> omega
  · rw [if_neg c]
    simp (disch := omega) only [xI_le, xI_lt, xI_eq, xI_0, xI_ib, if_pos, if_neg, if_true, if_false, xI_cl, Int.toNat_natCast, iI_m, iI_a, iI_s, iI_1, xI_n, Option.bind_some, Int.natCast_add, Int.natCast_one, xI_zb, if_bI0, if_bI1, xI_rn, xI_ti, k_hasLetter hv R.1.2.1 hr]
/-- the greatest bend behind whole arcs is the greatest at the ends of arcs -/
theorem pv_bT_end {v : pv_T} (hv : pv_ok v) {n : Nat} (hn : n ≤ v.1 0) : pv_bT v (pv_tA v n) (v.1 0) = pv_bA v n := by
  have e1 : ∀ m, m ≤ n → pv_bT v (pv_tA v n) m = pv_bA v m := by
    intro m
    induction m with
    | zero => intro _; rfl
    | succ m ih =>
      intro hm
      have hb := pv_tA_mono hv (i := m + 1) (j := n) hm hn
      rw [pv_tA_s] at hb
      have hc := hv.2.1 m (by omega)
      have hp : pv_ps v (pv_tA v n) m = 10 * v.2 2 m := by unfold pv_ps; rw [if_neg (by omega)]; split <;> omega
      show pv_bT v (pv_tA v n) m + (if v.2 3 m = 0 then pv_ps v (pv_tA v n) m else - pv_ps v (pv_tA v n) m) = pv_bA v m + (if v.2 3 m = 0 then 10 * v.2 2 m else - (10 * v.2 2 m))
      rw [ih (by omega), hp]
  have e2 : ∀ m, n ≤ m → m ≤ v.1 0 → pv_bT v (pv_tA v n) m = pv_bA v n := by
    intro m
    induction m with
    | zero => intro q _; have : n = 0 := by omega
              subst this; rfl
    | succ m ih =>
      intro q1 q2
      by_cases e : n = m + 1
      · rw [← e]; exact e1 n (Nat.le_refl _)
      · have hb := pv_tA_mono hv (i := n) (j := m) (by omega) (by omega)
        have hc := hv.2.1 m (by omega)
        have hp : pv_ps v (pv_tA v n) m = 0 := by unfold pv_ps; split <;> (try split) <;> omega
        show pv_bT v (pv_tA v n) m + (if v.2 3 m = 0 then pv_ps v (pv_tA v n) m else - pv_ps v (pv_tA v n) m) = _
        rw [ih (by omega) (by omega), hp]
        split <;> omega
  exact e2 _ hn (Nat.le_refl _)
end ROO
