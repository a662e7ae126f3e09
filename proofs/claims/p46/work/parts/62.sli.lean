/-! many letters engraved, both sides; slips -/
def enA (lim : Nat) (v : pv_T) : Nat → Nat × pv_T
  | 0 => (0, v)
  | n + 1 => if (enA lim v n).2.2 6 n = 0 ∧ (enA lim v n).2.1 3 ≤ lim then ((enA lim v n).1 + 1, engL (enA lim v n).2 n) else enA lim v n
theorem enA_t {lim : Nat} {v : pv_T} {n : Nat} (c : (enA lim v n).2.2 6 n = 0 ∧ (enA lim v n).2.1 3 ≤ lim) : enA lim v (n + 1) = ((enA lim v n).1 + 1, engL (enA lim v n).2 n) := if_pos c
theorem enA_f {lim : Nat} {v : pv_T} {n : Nat} (c : ¬ ((enA lim v n).2.2 6 n = 0 ∧ (enA lim v n).2.1 3 ≤ lim)) : enA lim v (n + 1) = enA lim v n := if_neg c
theorem enA_S {lim : Nat} {v : pv_T} : ∀ n, sameC v (enA lim v n).2
  | 0 => sameC.rf
  | n + 1 => by
    by_cases c : (enA lim v n).2.2 6 n = 0 ∧ (enA lim v n).2.1 3 ≤ lim
    · rw [enA_t c]; exact (enA_S n).tr engL_S
    · rw [enA_f c]; exact enA_S n
theorem enA_W {lim : Nat} {v : pv_T} (hv : pvW v) : ∀ n, n ≤ v.1 1 → pvW (enA lim v n).2
  | 0, _ => hv
  | n + 1, hn => by
    by_cases c : (enA lim v n).2.2 6 n = 0 ∧ (enA lim v n).2.1 3 ≤ lim
    · rw [enA_t c]; exact engL_W (enA_W hv n (by omega)) (by rw [(enA_S n).2.1]; omega)
    · rw [enA_f c]; exact enA_W hv n (by omega)
theorem enA_3 {lim : Nat} {v : pv_T} : ∀ n, v.1 3 ≤ (enA lim v n).2.1 3 ∧ (enA lim v n).2.1 3 ≤ v.1 3 + 4 * n
  | 0 => ⟨Nat.le_refl _, Nat.le_refl _⟩
  | n + 1 => by
    have h1 := enA_3 (lim := lim) (v := v) n
    by_cases c : (enA lim v n).2.2 6 n = 0 ∧ (enA lim v n).2.1 3 ≤ lim
    · rw [enA_t c]
      have h2 := engL_3 (enA lim v n).2 n
      show v.1 3 ≤ (engL (enA lim v n).2 n).1 3 ∧ (engL (enA lim v n).2 n).1 3 ≤ v.1 3 + 4 * (n + 1)
      omega
    · rw [enA_f c]; omega
theorem enA_44 {v : pv_T} (hn : v.1 3 ≤ 44) : ∀ n, (enA 40 v n).2.1 3 ≤ 44
  | 0 => hn
  | n + 1 => by
    have h1 := enA_44 hn n
    by_cases c : (enA 40 v n).2.2 6 n = 0 ∧ (enA 40 v n).2.1 3 ≤ 40
    · rw [enA_t c]
      have h2 := engL_3 (enA 40 v n).2 n
      show (engL (enA 40 v n).2 n).1 3 ≤ 44
      omega
    · rw [enA_f c]; exact h1
theorem enA_n {lim : Nat} {v : pv_T} : ∀ n, (enA lim v n).1 ≤ n
  | 0 => Nat.le_refl _
  | n + 1 => by
    have h1 := enA_n (lim := lim) (v := v) n
    by_cases c : (enA lim v n).2.2 6 n = 0 ∧ (enA lim v n).2.1 3 ≤ lim
    · rw [enA_t c]
      show (enA lim v n).1 + 1 ≤ n + 1
      omega
    · rw [enA_f c]; omega
theorem stP_6 {v : pv_T} {j : Nat} : (stP v j).2 6 = v.2 6 := by
  unfold stP
  split
  · rw [addS_c (by omega) (by omega), setG_c (by omega)]
  · rw [setG_c (by omega)]
theorem itP_6 {v : pv_T} {j : Nat} : ∀ n, (itP n v j).2 6 = v.2 6
  | 0 => rfl
  | n + 1 => stP_6.trans (itP_6 n)
theorem engL_6 {v : pv_T} {j i : Nat} (h : i ≠ j) : (engL v j).2 6 i = v.2 6 i := by
  unfold engL
  rw [pu_i h, itP_6]
theorem enA_6 {lim : Nat} {v : pv_T} {i : Nat} : ∀ n, n ≤ i → (enA lim v n).2.2 6 i = v.2 6 i
  | 0, _ => rfl
  | n + 1, hn => by
    by_cases c : (enA lim v n).2.2 6 n = 0 ∧ (enA lim v n).2.1 3 ≤ lim
    · rw [enA_t c]; exact (engL_6 (by omega)).trans (enA_6 n (by omega))
    · rw [enA_f c]; exact enA_6 n (by omega)
theorem stP_sl {v : pv_T} {j : Nat} (hv : pvW v) : (stP v j).2 0 3 - v.2 0 3 = ((stP v j).1 3 : Int) - v.1 3 := by
  have hb := stk_b (G := gvO v) (hd := hdL v j) hv.g
  have e : (stP v j).2 0 3 = (stk (gvO v) (hdL v j)).2.2.2.1 := congrArg (fun g : G4 => g.2.2.1) (gvO_st (v := v) (j := j))
  have e2 : (gvO v).2.2.1 = v.2 0 3 := rfl
  rw [e, stP_3]
  generalize stk (gvO v) (hdL v j) = S at hb ⊢
  rw [e2] at hb
  by_cases c : 0 < S.1
  · rw [if_pos c]; omega
  · rw [if_neg c]; omega
theorem itP_sl {v : pv_T} {j : Nat} (hv : pvW v) (hj : j < v.1 1) : ∀ n, (itP n v j).2 0 3 - v.2 0 3 = ((itP n v j).1 3 : Int) - v.1 3
  | 0 => by show v.2 0 3 - v.2 0 3 = ((v.1 3 : Nat) : Int) - v.1 3; omega
  | n + 1 => by
    have h1 := itP_sl hv hj n
    have h2 := stP_sl (j := j) (itP_W hv hj n)
    show (stP (itP n v j) j).2 0 3 - v.2 0 3 = ((stP (itP n v j) j).1 3 : Int) - v.1 3
    omega
theorem enA_sl {lim : Nat} {v : pv_T} (hv : pvW v) : ∀ n, n ≤ v.1 1 → (enA lim v n).2.2 0 3 - v.2 0 3 = ((enA lim v n).2.1 3 : Int) - v.1 3
  | 0, _ => by show v.2 0 3 - v.2 0 3 = ((v.1 3 : Nat) : Int) - v.1 3; omega
  | n + 1, hn => by
    have h1 := enA_sl (lim := lim) hv n (by omega)
    by_cases c : (enA lim v n).2.2 6 n = 0 ∧ (enA lim v n).2.1 3 ≤ lim
    · rw [enA_t c]
      have h2 := itP_sl (v := (enA lim v n).2) (j := n) (enA_W hv n (by omega)) (by rw [(enA_S n).2.1]; omega) (nst (enA lim v n).2 n)
      show (itP (nst (enA lim v n).2 n) (enA lim v n).2 n).2 0 3 - v.2 0 3 = ((itP (nst (enA lim v n).2 n) (enA lim v n).2 n).1 3 : Int) - v.1 3
      omega
    · rw [enA_f c]; exact h1
section SLI
variable {h : am_H} {v : pv_T} {k : Nat}
theorem k_canAny (hv : pvW v) (hn : v.1 3 ≤ 124) (R : cl_pl h k v) : f_X5_canEngraveAny k h = some (iI (bI (0 < v.1 0 ∧ v.1 3 ≤ 40))) := by
  have h8 : v.1 0 ≤ 8 := hv.1.1.1
  unfold f_X5_canEngraveAny bI
  simp (disch := omega) only [xI_le, xI_lt, xI_eq, xI_0, xI_ib, if_pos, if_neg, if_true, if_false, xI_cl, Int.toNat_natCast, iI_m, iI_a, iI_s, iI_1, xI_n, Option.bind_some, Int.natCast_add, Int.natCast_one, xI_zb, if_bI0, if_bI1, xI_rn, xI_ti, R.1.1, R.2.2.2.2.1.1]
  (repeat' split) <;> first | rfl | (exfalso; omega)
theorem k_canEngrave (hv : pvW v) (hn : v.1 3 ≤ 124) (R : cl_pl h k v) {j : Nat} (hj : j < v.1 1) : f_X5_canEngrave k (iI j) h = some (iI (bI (v.2 6 j = 0 ∧ 0 < v.1 0 ∧ v.1 3 ≤ 40))) := by
  have h20 : v.1 1 ≤ 20 := hv.1.1.2.1
  have h6 := hv.1.2.2.1 j hj
  have e6 : (pn v 3 0).2 6 j = v.2 6 j := rfl
  unfold f_X5_canEngrave
  have e0 : f_X5_hasLetter k (iI j) h = some (iI (bI (0 ≤ (j : Int) ∧ (j : Int) ≤ (v.1 1 : Int) - 1))) := k_hasLetter (v := pn v 3 0) hv.1 R.2.1 (i := j) (by omega)
  have e9 := k_canAny hv hn R
  have r6 := (R.2.1.2.1 j hj).2.1
  by_cases c : v.2 6 j = 0
  · by_cases d : 0 < v.1 0 ∧ v.1 3 ≤ 40
    · rw [show bI (0 < v.1 0 ∧ v.1 3 ≤ 40) = 1 from if_pos d] at e9
      rw [show bI (v.2 6 j = 0 ∧ 0 < v.1 0 ∧ v.1 3 ≤ 40) = 1 from if_pos ⟨c, d⟩]
      rw [c] at r6
      simp (disch := omega) only [xI_le, xI_lt, xI_eq, xI_0, xI_ib, if_pos, if_neg, if_true, if_false, xI_cl, Int.toNat_natCast, iI_m, iI_a, iI_s, iI_1, xI_n, Option.bind_some, Int.natCast_add, Int.natCast_one, xI_zb, if_bI0, if_bI1, xI_rn, xI_ti, e0, r6, e9]
    · rw [show bI (0 < v.1 0 ∧ v.1 3 ≤ 40) = 0 from if_neg d] at e9
      rw [show bI (v.2 6 j = 0 ∧ 0 < v.1 0 ∧ v.1 3 ≤ 40) = 0 from if_neg (fun z => d z.2)]
      rw [c] at r6
      simp (disch := omega) only [xI_le, xI_lt, xI_eq, xI_0, xI_ib, if_pos, if_neg, if_true, if_false, xI_cl, Int.toNat_natCast, iI_m, iI_a, iI_s, iI_1, xI_n, Option.bind_some, Int.natCast_add, Int.natCast_one, xI_zb, if_bI0, if_bI1, xI_rn, xI_ti, e0, r6, e9]
  · rw [show bI (v.2 6 j = 0 ∧ 0 < v.1 0 ∧ v.1 3 ≤ 40) = 0 from if_neg (fun z => c z.1)]
    simp (disch := omega) only [xI_le, xI_lt, xI_eq, xI_0, xI_ib, if_pos, if_neg, if_true, if_false, xI_cl, Int.toNat_natCast, iI_m, iI_a, iI_s, iI_1, xI_n, Option.bind_some, Int.natCast_add, Int.natCast_one, xI_zb, if_bI0, if_bI1, xI_rn, xI_ti, e0, r6]
theorem k_engravePlanned (hv : pvW v) (hn : v.1 3 ≤ 44) (h0 : 0 < v.1 0) (R : cl_pl h k v) : ∃ h', f_X5_engravePlanned k h = some (iI (enA 40 v (v.1 1)).1, h') ∧ cl_pl h' k (enA 40 v (v.1 1)).2 := by
  have h20 : v.1 1 ≤ 20 := hv.1.1.2.1
  obtain ⟨s, e1, R1⟩ := ch_rel (fun i s => f_X5_engravePlanned_4 k (iI (enA 40 v i).1) (iI i) s) (fun i s => cl_pl s k (enA 40 v i).2) (n := v.1 1) (fun i s hi Rs => by
    have hw := enA_W (lim := 40) hv i (by omega)
    have h44 := enA_44 hn i
    have hS := enA_S (lim := 40) (v := v) i
    have hi' : i < (enA 40 v i).2.1 1 := by rw [hS.2.1]; exact hi
    have ec := k_canEngrave hw (by omega) Rs hi'
    rw [hS.1] at ec
    have r6 := Rs.2.1.1
    rw [hS.2.1] at r6
    have hni := enA_n (lim := 40) (v := v) i
    by_cases c : (enA 40 v i).2.2 6 i = 0 ∧ (enA 40 v i).2.1 3 ≤ 40
    · obtain ⟨h2, e2, R2⟩ := k_engraveLetter hw c.2 Rs hi'
      refine ⟨h2, ?_, by rw [enA_t c]; exact R2⟩
      show f_X5_engravePlanned_4 _ _ _ _ = f_X5_engravePlanned_4 _ _ _ _
      rw [e_X5_engravePlanned_4, enA_t c]
      simp (disch := omega) only [xI_le, xI_lt, xI_eq, xI_0, xI_ib, if_pos, if_neg, if_true, if_false, xI_cl, Int.toNat_natCast, iI_m, iI_a, iI_s, iI_1, xI_n, Option.bind_some, Int.natCast_add, Int.natCast_one, xI_zb, if_bI0, if_bI1, xI_rn, xI_ti, r6, ec, e2]
    · refine ⟨s, ?_, by rw [enA_f c]; exact Rs⟩
      show f_X5_engravePlanned_4 _ _ _ _ = f_X5_engravePlanned_4 _ _ _ _
      rw [e_X5_engravePlanned_4, enA_f c]
      simp (disch := omega) only [xI_le, xI_lt, xI_eq, xI_0, xI_ib, if_pos, if_neg, if_true, if_false, xI_cl, Int.toNat_natCast, iI_m, iI_a, iI_s, iI_1, xI_n, Option.bind_some, Int.natCast_add, Int.natCast_one, xI_zb, if_bI0, if_bI1, xI_rn, xI_ti, r6, ec]) (s0 := h) R
  refine ⟨s, Eq.trans e1 ?_, R1⟩
  show f_X5_engravePlanned_4 _ _ _ _ = _
  have r6 := R1.2.1.1
  rw [(enA_S _).2.1] at r6
  rw [e_X5_engravePlanned_4]
  simp (disch := omega) only [xI_le, xI_lt, xI_eq, xI_0, xI_ib, if_pos, if_neg, if_true, if_false, xI_cl, Int.toNat_natCast, iI_m, iI_a, iI_s, iI_1, xI_n, Option.bind_some, Int.natCast_add, Int.natCast_one, xI_zb, if_bI0, if_bI1, xI_rn, xI_ti, r6]
/-- slips, without engraving -/
theorem k_slipsBy (hv : pvW v) (hn : v.1 3 ≤ 44) (Rc : cl_cu h 0 v) (Rn : cl_na h 0 v) (G : cl_g h (.inl 1) 2 (gvO v)) : ∃ h', f_X5_slipsBy 0 h = some (iI ((enA 1000 v (v.1 1)).2.2 0 3 - v.2 0 3), h') := by
  have h20 : v.1 1 ≤ 20 := hv.1.1.2.1
  have hP : ∀ s, Wr [(.inl 1, 2)] h s → cl_cu s 0 v ∧ cl_na s 0 v := fun s w => ⟨Rc.eq (w.P (by simp)), Rn.eq (w.P (by simp))⟩
  obtain ⟨s, e1, R1, w1⟩ := ch_rel (fun i s => f_X5_slipsBy_7 0 (iI (v.2 0 3)) (iI i) s) (fun i s => cl_g s (.inl 1) 2 (gvO (enA 1000 v i).2) ∧ Wr [(.inl 1, 2)] h s) (n := v.1 1) (fun i s hi Rs => by
    obtain ⟨Gs, w⟩ := Rs
    obtain ⟨c1, n1⟩ := hP s w
    have hw := enA_W (lim := 1000) hv i (by omega)
    have h3 := enA_3 (lim := 1000) (v := v) i
    have hS := enA_S (lim := 1000) (v := v) i
    have hi' : i < (enA 1000 v i).2.1 1 := by rw [hS.2.1]; exact hi
    have eh : f_X5_hardnessUnder 0 (iI i) s = some (iI (hdL v i)) := k_hardnessUnder (v := pn v 3 0) hv.1 c1 n1 hi
    have e6 := enA_6 (lim := 1000) (v := v) (i := i) i (Nat.le_refl _)
    have h6 := hv.1.2.2.1 i hi
    have h6' : 0 ≤ v.2 6 i ∧ v.2 6 i ≤ 1 := ⟨h6.2.2.1, h6.2.2.2.1⟩
    by_cases c : v.2 6 i = 0
    · have hcc : (enA 1000 v i).2.2 6 i = 0 ∧ (enA 1000 v i).2.1 3 ≤ 1000 := ⟨e6.trans c, by omega⟩
      have es : f_X4_strokesOf 0 (iI i) s = some (iI (1 + v.2 5 i % 4)) := k_strokesOf (v := pn v 3 0) hv.1 n1 hi
      rw [nst_e] at es
      have hb := nst_b v i
      obtain ⟨s2, e2, G2, w2⟩ := ch_rel (fun a s => f_X5_slipsBy_54 0 (iI (v.2 0 3)) (iI i) (iI (hdL v i)) (iI (nst v i)) (iI a) s) (fun a s => cl_g s (.inl 1) 2 (gvO (itP a (enA 1000 v i).2 i)) ∧ Wr [(.inl 1, 2)] h s) (n := nst v i) (fun a s' ha Rs' => by
        obtain ⟨G', w'⟩ := Rs'
        have hw' := itP_W hw hi' a
        have eS : hdL (itP a (enA 1000 v i).2 i) i = hdL v i := (hdL_S (itP_S a) i).trans (hdL_S hS i)
        obtain ⟨h1, e1, g1⟩ := k_reach (hd := hdL v i) hw'.g (hv.h i) G'
        refine ⟨h1, ?_, ?_, w'.tr (wr_X1_reachOfStroke e1)⟩
        · show f_X5_slipsBy_54 _ _ _ _ _ _ _ = f_X5_slipsBy_54 _ _ _ _ _ _ _
          rw [e_X5_slipsBy_54]
          simp (disch := omega) only [xI_le, xI_lt, xI_eq, xI_0, xI_ib, if_pos, if_neg, if_true, if_false, xI_cl, Int.toNat_natCast, iI_m, iI_a, iI_s, iI_1, xI_n, Option.bind_some, Int.natCast_add, Int.natCast_one, xI_zb, if_bI0, if_bI1, xI_rn, xI_ti, e1]
        · show cl_g h1 (.inl 1) 2 (gvO (stP (itP a (enA 1000 v i).2 i) i))
          rw [gvO_st, eS]
          exact g1) (s0 := s) ⟨Gs, w⟩
      refine ⟨s2, ?_, ?_, w2⟩
      · show f_X5_slipsBy_7 _ _ _ _ = f_X5_slipsBy_7 _ _ _ _
        rw [e_X5_slipsBy_7]
        simp (disch := omega) only [xI_le, xI_lt, xI_eq, xI_0, xI_ib, if_pos, if_neg, if_true, if_false, xI_cl, Int.toNat_natCast, iI_m, iI_a, iI_s, iI_1, xI_n, Option.bind_some, Int.natCast_add, Int.natCast_one, xI_zb, if_bI0, if_bI1, xI_rn, xI_ti, n1.1, eh, (n1.2.1 i hi).2.1, es]
        refine Eq.trans e2 ?_
        show f_X5_slipsBy_54 _ _ _ _ _ _ _ = _
        rw [e_X5_slipsBy_54]
        simp (disch := omega) only [xI_le, xI_lt, xI_eq, xI_0, xI_ib, if_pos, if_neg, if_true, if_false, xI_cl, Int.toNat_natCast, iI_m, iI_a, iI_s, iI_1, xI_n, Option.bind_some, Int.natCast_add, Int.natCast_one, xI_zb, if_bI0, if_bI1, xI_rn, xI_ti]
      · rw [enA_t hcc]
        have en : nst (enA 1000 v i).2 i = nst v i := by
          unfold nst
          rw [hS.2.2.2.1 5 (by omega) (by omega) (by omega) (by omega)]
        show cl_g s2 (.inl 1) 2 (gvO (itP (nst (enA 1000 v i).2 i) (enA 1000 v i).2 i))
        rw [en]
        exact G2
    · have hcc : ¬ ((enA 1000 v i).2.2 6 i = 0 ∧ (enA 1000 v i).2.1 3 ≤ 1000) := fun z => c (e6.symm.trans z.1)
      refine ⟨s, ?_, by rw [enA_f hcc]; exact Gs, w⟩
      show f_X5_slipsBy_7 _ _ _ _ = f_X5_slipsBy_7 _ _ _ _
      rw [e_X5_slipsBy_7]
      simp (disch := omega) only [xI_le, xI_lt, xI_eq, xI_0, xI_ib, if_pos, if_neg, if_true, if_false, xI_cl, Int.toNat_natCast, iI_m, iI_a, iI_s, iI_1, xI_n, Option.bind_some, Int.natCast_add, Int.natCast_one, xI_zb, if_bI0, if_bI1, xI_rn, xI_ti, n1.1, eh, (n1.2.1 i hi).2.1]
      rw [e_X5_slipsBy_54]
      simp (disch := omega) only [xI_le, xI_lt, xI_eq, xI_0, xI_ib, if_pos, if_neg, if_true, if_false, xI_cl, Int.toNat_natCast, iI_m, iI_a, iI_s, iI_1, xI_n, Option.bind_some, Int.natCast_add, Int.natCast_one, xI_zb, if_bI0, if_bI1, xI_rn, xI_ti]) (s0 := h) ⟨G, Wr.rf⟩
  refine ⟨s, ?_⟩
  unfold f_X5_slipsBy
  rw [G.2.2.1]
  refine Eq.trans e1 ?_
  show f_X5_slipsBy_7 _ _ _ _ = _
  have n1 := (hP s w1).2
  have r3 := R1.2.2.1
  rw [e_X5_slipsBy_7]
  simp (disch := omega) only [xI_le, xI_lt, xI_eq, xI_0, xI_ib, if_pos, if_neg, if_true, if_false, xI_cl, Int.toNat_natCast, iI_m, iI_a, iI_s, iI_1, xI_n, Option.bind_some, Int.natCast_add, Int.natCast_one, xI_zb, if_bI0, if_bI1, xI_rn, xI_ti, n1.1, r3]
  rfl
end SLI
