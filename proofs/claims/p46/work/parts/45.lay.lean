/-! the rooms, measured; what is read of them -/
def cl_lay (h : am_H) (v : pv_T) : Prop := h.1 (.inl 1) 3 4 = iI ((v.1 1 : Int) + 1) ∧ ∀ i, i ≤ v.1 1 → h.1 (.inl 1) 4 i = iI (pv_rm v i)
section LAY
variable {h : am_H} {k : Nat} {v : pv_T}
theorem k_measure (hv : pv_ok v) (Rc : cl_cu h k v) (R : cl_na h k v) : ∃ h', f_X3_measure k h = some h' ∧ cl_lay h' v := by
  have h8 := hv.1
  obtain ⟨s, e1, w, p⟩ := ch_rel (fun i s => f_X3_measure_13 k (iI (v.1 1)) (iI (pv_fr v i)) (iI i) s) (fun i s => Wr [(.inl 1, 4), (.inl 1, 3)] h s ∧ ∀ j, j < i → s.1 (.inl 1) 4 j = iI (pv_rm v j)) (n := v.1 1) (fun i s hi hp => by
    obtain ⟨w, p⟩ := hp
    have eq := w.P (k := k) (by simp)
    have hw := pv_w_b hv hi
    refine ⟨am_u s (.inl 1) 4 i (iI (pv_le v i - pv_fr v i)), ?_, w.tr (Wr.u (by simp)), fun j hj => ?_⟩
    · show f_X3_measure_13 _ _ _ _ _ = f_X3_measure_13 _ _ _ _ _
      rw [e_X3_measure_13]
      simp (disch := omega) only [xI_le, xI_lt, xI_eq, xI_0, xI_ib, if_pos, if_neg, if_true, if_false, xI_cl, Int.toNat_natCast, iI_m, iI_a, iI_s, iI_1, xI_n, Option.bind_some, Int.natCast_add, Int.natCast_one, xI_zb, if_bI0, if_bI1, xI_rn, xI_ti, k_centreParts hv (Rc.eq eq) (R.eq eq) hi, k_partsOf hv (R.eq eq) hi, am_lt, xI_dn, show 1000 * pv_w v i / 2 = 500 * pv_w v i from by omega]
      rfl
    · rw [au_s]
      by_cases c : j = i
      · subst c
        rw [if_pos rfl]
        unfold pv_rm
        rw [if_pos hi]
      · rw [if_neg c]
        exact p j (by omega)) (s0 := h) ⟨Wr.rf, fun j hj => by omega⟩
  have eq := w.P (k := k) (by simp)
  have e2 : f_X3_measure k h = f_X3_measure_13 k (iI (v.1 1)) (iI (pv_fr v (v.1 1))) (iI (v.1 1)) s := by
    refine Eq.trans ?_ e1
    unfold f_X3_measure
    rw [R.1]
    rfl
  refine ⟨am_u (am_u s (.inl 1) 4 (v.1 1) (iI (pv_wP v - pv_fr v (v.1 1)))) (.inl 1) 3 4 (iI ((v.1 1 : Int) + 1)), ?_, ?_, fun i hi => ?_⟩
  · rw [e2, e_X3_measure_13]
    simp (disch := omega) only [xI_le, xI_lt, xI_eq, xI_0, xI_ib, if_pos, if_neg, if_true, if_false, xI_cl, Int.toNat_natCast, iI_m, iI_a, iI_s, iI_1, xI_n, Option.bind_some, Int.natCast_add, Int.natCast_one, xI_zb, if_bI0, if_bI1, xI_rn, xI_ti, k_wholeParts hv (Rc.eq eq), am_lt]
  · rw [au_s, if_pos rfl]
  · rw [am_u_row (by simp), au_s]
    by_cases c : i = v.1 1
    · subst c
      rw [if_pos rfl]
      unfold pv_rm
      rw [if_neg (by omega)]
    · rw [if_neg c]
      exact p i (by omega)
/-- the crowded rooms below i, as a set -/
def pv_crS (v : pv_T) : Nat → Int32
  | 0 => iI 0
  | i + 1 => if pv_rm v i < 100 * v.2 0 1 then pv_crS v i ||| (iI 1 <<< (iI i &&& 31)) else pv_crS v i
/-- the tightest room below i -/
def pv_ti (v : pv_T) : Nat → Nat
  | 0 => 0
  | i + 1 => if pv_rm v i < pv_rm v (pv_ti v i) then i else pv_ti v i
theorem pv_ti_le (v : pv_T) (i : Nat) : pv_ti v (i + 1) ≤ i := by
  induction i with
  | zero => unfold pv_ti; split <;> exact Nat.le_refl 0
  | succ i ih => unfold pv_ti; split <;> omega
theorem pv_ti_1 (v : pv_T) : pv_ti v 1 = 0 := Nat.le_zero.mp (pv_ti_le v 0)
theorem k_crowdedRooms (hv : pv_ok v) (R : cl_lay h v) : f_X3_crowdedRooms (iI (v.2 0 1)) h = some (pv_crS v (v.1 1 + 1)) := by
  have h8 := hv.1
  have hm := hv.2.2.2.2.2.2
  have s := ch_to (fun i : Nat => f_X3_crowdedRooms_4 (iI (v.2 0 1)) (pv_crS v i) (iI i) h) (Nat.zero_le (v.1 1 + 1)) (fun i _ hi => by
    show f_X3_crowdedRooms_4 _ _ _ _ = f_X3_crowdedRooms_4 _ _ _ _
    have hb := pv_rm_b hv (i := i) (by omega)
    rw [e_X3_crowdedRooms_4]
    by_cases c : pv_rm v i < 100 * v.2 0 1
    · rw [show pv_crS v (i + 1) = pv_crS v i ||| (iI 1 <<< (iI i &&& 31)) from if_pos c]
      simp (disch := omega) only [xI_le, xI_lt, xI_eq, xI_0, xI_ib, if_pos, if_neg, if_true, if_false, xI_cl, Int.toNat_natCast, iI_m, iI_a, iI_s, iI_1, xI_n, Option.bind_some, Int.natCast_add, Int.natCast_one, xI_zb, if_bI0, if_bI1, xI_rn, xI_ti, R.1, R.2 i (by omega)]
    · rw [show pv_crS v (i + 1) = pv_crS v i from if_neg c]
      simp (disch := omega) only [xI_le, xI_lt, xI_eq, xI_0, xI_ib, if_pos, if_neg, if_true, if_false, xI_cl, Int.toNat_natCast, iI_m, iI_a, iI_s, iI_1, xI_n, Option.bind_some, Int.natCast_add, Int.natCast_one, xI_zb, if_bI0, if_bI1, xI_rn, xI_ti, R.1, R.2 i (by omega)])
  refine Eq.trans s ?_
  show f_X3_crowdedRooms_4 _ _ _ _ = _
  rw [e_X3_crowdedRooms_4]
  simp (disch := omega) only [xI_le, xI_lt, xI_eq, xI_0, xI_ib, if_pos, if_neg, if_true, if_false, xI_cl, Int.toNat_natCast, iI_m, iI_a, iI_s, iI_1, xI_n, Option.bind_some, Int.natCast_add, Int.natCast_one, xI_zb, if_bI0, if_bI1, xI_rn, xI_ti, R.1]
theorem k_tightestRoom (hv : pv_ok v) (R : cl_lay h v) : f_X3_tightestRoom h = some (iI (pv_ti v (v.1 1 + 1))) := by
  have h8 := hv.1
  have s := ch_to (fun i : Nat => f_X3_tightestRoom_4 (iI (pv_ti v i)) (iI i) h) (m := 1) (n := v.1 1 + 1) (by omega) (fun i hi1 hi => by
    show f_X3_tightestRoom_4 _ _ _ = f_X3_tightestRoom_4 _ _ _
    have hb := pv_rm_b hv (i := i) (by omega)
    have ht : pv_ti v i ≤ i - 1 := by
      cases i with
      | zero => omega
      | succ i => exact pv_ti_le v i
    have hb2 := pv_rm_b hv (i := pv_ti v i) (by omega)
    rw [e_X3_tightestRoom_4]
    by_cases c : pv_rm v i < pv_rm v (pv_ti v i)
    · rw [show pv_ti v (i + 1) = i from if_pos c]
      simp (disch := omega) only [xI_le, xI_lt, xI_eq, xI_0, xI_ib, if_pos, if_neg, if_true, if_false, xI_cl, Int.toNat_natCast, iI_m, iI_a, iI_s, iI_1, xI_n, Option.bind_some, Int.natCast_add, Int.natCast_one, xI_zb, if_bI0, if_bI1, xI_rn, xI_ti, R.1, R.2 i (by omega), R.2 (pv_ti v i) (by omega)]
    · rw [show pv_ti v (i + 1) = pv_ti v i from if_neg c]
      simp (disch := omega) only [xI_le, xI_lt, xI_eq, xI_0, xI_ib, if_pos, if_neg, if_true, if_false, xI_cl, Int.toNat_natCast, iI_m, iI_a, iI_s, iI_1, xI_n, Option.bind_some, Int.natCast_add, Int.natCast_one, xI_zb, if_bI0, if_bI1, xI_rn, xI_ti, R.1, R.2 i (by omega), R.2 (pv_ti v i) (by omega)])
  have s0 : f_X3_tightestRoom h = f_X3_tightestRoom_4 (iI (pv_ti v 1)) (iI (1 : Nat)) h := by rw [pv_ti_1]; rfl
  rw [s0]
  refine Eq.trans s ?_
  show f_X3_tightestRoom_4 _ _ _ = _
  rw [e_X3_tightestRoom_4]
  simp (disch := omega) only [xI_le, xI_lt, xI_eq, xI_0, xI_ib, if_pos, if_neg, if_true, if_false, xI_cl, Int.toNat_natCast, iI_m, iI_a, iI_s, iI_1, xI_n, Option.bind_some, Int.natCast_add, Int.natCast_one, xI_zb, if_bI0, if_bI1, xI_rn, xI_ti, R.1]
/-- the letter that a scratch spoils -/
def pv_sb (v : pv_T) (s : Nat) : Int := if v.2 12 s + 1 < v.1 1 ∧ pv_rm v (v.2 12 s + 1).toNat < v.2 13 s then v.2 12 s + 1 else -1
theorem pv_sb_b (hv : pv_ok v) {s : Nat} (hs : s < v.1 3) : -1 ≤ pv_sb v s ∧ pv_sb v s ≤ 20 := by
  have h8 := hv.1
  have := hv.2.2.2.2.2.1 s hs
  unfold pv_sb
  split <;> omega
abbrev pv_iS (v : pv_T) (l : Int) : Prop := pv_fst (fun s => decide (pv_sb v s = l)) (v.1 3) 0 < v.1 3
theorem k_letterSpoiledBy (hv : pv_ok v) (R : cl_na h k v) (Rs : cl_sc h k v) (Rl : cl_lay h v) {s : Nat} (hs : s < v.1 3) : f_X3_letterSpoiledBy k (iI s) h = some (iI (pv_sb v s)) := by
  have h8 := hv.1
  have h1 := hv.2.2.2.2.2.1 s hs
  have key : f_X3_letterSpoiledBy_42 k (iI (v.2 12 s + 1)) h = some (iI (-1)) := rfl
  unfold f_X3_letterSpoiledBy
  simp (disch := omega) only [xI_le, xI_lt, xI_eq, xI_0, xI_ib, if_pos, if_neg, if_true, if_false, xI_cl, Int.toNat_natCast, iI_m, iI_a, iI_s, iI_1, xI_n, Option.bind_some, Int.natCast_add, Int.natCast_one, xI_zb, if_bI0, if_bI1, xI_rn, xI_ti, (Rs.2 s hs).1, (Rs.2 s hs).2, k_hasLetter hv R (i := v.2 12 s + 1) (by omega), key]
  unfold pv_sb
  by_cases c : v.2 12 s + 1 < v.1 1
  · have hb := pv_rm_b hv (i := (v.2 12 s + 1).toNat) (by omega)
    simp (disch := omega) only [xI_le, xI_lt, xI_eq, xI_0, xI_ib, if_pos, if_neg, if_true, if_false, xI_cl, Int.toNat_natCast, iI_m, iI_a, iI_s, iI_1, xI_n, Option.bind_some, Int.natCast_add, Int.natCast_one, xI_zb, if_bI0, if_bI1, xI_rn, xI_ti, Rl.2 (v.2 12 s + 1).toNat (by omega)]
    by_cases d : pv_rm v (v.2 12 s + 1).toNat < v.2 13 s
    · simp (disch := omega) only [xI_le, xI_lt, xI_eq, xI_0, xI_ib, if_pos, if_neg, if_true, if_false, xI_cl, Int.toNat_natCast, iI_m, iI_a, iI_s, iI_1, xI_n, Option.bind_some, Int.natCast_add, Int.natCast_one, xI_zb, if_bI0, if_bI1, xI_rn, xI_ti]
    · simp (disch := omega) only [xI_le, xI_lt, xI_eq, xI_0, xI_ib, if_pos, if_neg, if_true, if_false, xI_cl, Int.toNat_natCast, iI_m, iI_a, iI_s, iI_1, xI_n, Option.bind_some, Int.natCast_add, Int.natCast_one, xI_zb, if_bI0, if_bI1, xI_rn, xI_ti]
  · simp (disch := omega) only [xI_le, xI_lt, xI_eq, xI_0, xI_ib, if_pos, if_neg, if_true, if_false, xI_cl, Int.toNat_natCast, iI_m, iI_a, iI_s, iI_1, xI_n, Option.bind_some, Int.natCast_add, Int.natCast_one, xI_zb, if_bI0, if_bI1, xI_rn, xI_ti]
theorem k_isSpoiled (hv : pv_ok v) (R : cl_na h k v) (Rs : cl_sc h k v) (Rl : cl_lay h v) {l : Int} (hl : -2147483648 ≤ l ∧ l < 2147483648) : f_X3_isSpoiled k (iI l) h = some (iI (bI (pv_iS v l))) := by
  have h8 := hv.1
  unfold pv_iS
  have hm := pv_fst_le (fun s => decide (pv_sb v s = l)) (v.1 3) 0
  have hat := pv_fst_at (fun s => decide (pv_sb v s = l)) (v.1 3) 0
  have hlt := pv_fst_lt (fun s => decide (pv_sb v s = l)) (v.1 3) 0
  generalize pv_fst (fun s => decide (pv_sb v s = l)) (v.1 3) 0 = m at hm hat hlt ⊢
  simp only [decide_eq_true_eq, decide_eq_false_iff_not] at hat hlt
  have s := ch_to (fun i : Nat => f_X3_isSpoiled_2 k (iI l) (iI i) h) (Nat.zero_le m) (fun i _ hi => by
    show f_X3_isSpoiled_2 _ _ _ _ = f_X3_isSpoiled_2 _ _ _ _
    have hb := pv_sb_b hv (s := i) (by omega)
    have hc := hlt i (by omega) hi
    rw [e_X3_isSpoiled_2]
    simp (disch := omega) only [xI_le, xI_lt, xI_eq, xI_0, xI_ib, if_pos, if_neg, if_true, if_false, xI_cl, Int.toNat_natCast, iI_m, iI_a, iI_s, iI_1, xI_n, Option.bind_some, Int.natCast_add, Int.natCast_one, xI_zb, if_bI0, if_bI1, xI_rn, xI_ti, Rs.1, k_letterSpoiledBy hv R Rs Rl (s := i) (by omega)])
  refine Eq.trans s ?_
  show f_X3_isSpoiled_2 _ _ _ _ = _
  rw [e_X3_isSpoiled_2]
  unfold bI
  by_cases hmn : m < v.1 3
  · have hb := pv_sb_b hv (s := m) hmn
    have hc := hat (by omega)
    simp (disch := omega) only [xI_le, xI_lt, xI_eq, xI_0, xI_ib, if_pos, if_neg, if_true, if_false, xI_cl, Int.toNat_natCast, iI_m, iI_a, iI_s, iI_1, xI_n, Option.bind_some, Int.natCast_add, Int.natCast_one, xI_zb, if_bI0, if_bI1, xI_rn, xI_ti, Rs.1, k_letterSpoiledBy hv R Rs Rl hmn]
  · simp (disch := omega) only [xI_le, xI_lt, xI_eq, xI_0, xI_ib, if_pos, if_neg, if_true, if_false, xI_cl, Int.toNat_natCast, iI_m, iI_a, iI_s, iI_1, xI_n, Option.bind_some, Int.natCast_add, Int.natCast_one, xI_zb, if_bI0, if_bI1, xI_rn, xI_ti, Rs.1]
end LAY
