/-! letters engraved, both sides -/
def itP : Nat → pv_T → Nat → pv_T
  | 0, v, _ => v
  | n + 1, v, j => stP (itP n v j) j
def nst (v : pv_T) (j : Nat) : Nat := (1 + v.2 5 j % 4).toNat
def engL (v : pv_T) (j : Nat) : pv_T := pu (itP (nst v j) v j) 6 j 1
theorem itP_S {v : pv_T} {j : Nat} : ∀ n, sameC v (itP n v j)
  | 0 => sameC.rf
  | n + 1 => (itP_S n).tr stP_S
theorem itP_W {v : pv_T} {j : Nat} (hv : pvW v) (hj : j < v.1 1) : ∀ n, pvW (itP n v j)
  | 0 => hv
  | n + 1 => stP_W (itP_W hv hj n) (by rw [(itP_S n).2.1]; exact hj)
theorem stP_3le (v : pv_T) (j : Nat) : v.1 3 ≤ (stP v j).1 3 ∧ (stP v j).1 3 ≤ v.1 3 + 1 := by
  rw [stP_3]
  split <;> omega
theorem itP_3 {v : pv_T} {j : Nat} : ∀ n, v.1 3 ≤ (itP n v j).1 3 ∧ (itP n v j).1 3 ≤ v.1 3 + n
  | 0 => ⟨Nat.le_refl _, Nat.le_refl _⟩
  | n + 1 => by
    have h1 := itP_3 (v := v) (j := j) n
    have h2 := stP_3le (itP n v j) j
    show v.1 3 ≤ (stP (itP n v j) j).1 3 ∧ (stP (itP n v j) j).1 3 ≤ v.1 3 + (n + 1)
    omega
theorem nst_b (v : pv_T) (j : Nat) : 1 ≤ nst v j ∧ nst v j ≤ 4 := by unfold nst; omega
theorem nst_e (v : pv_T) (j : Nat) : 1 + v.2 5 j % 4 = (nst v j : Int) := by unfold nst; omega
theorem pu_S {v : pv_T} {j : Nat} {x : Int} : sameC v (pu v 6 j x) := ⟨rfl, rfl, rfl, fun c _ h _ _ => by funext i; exact pu_o h, rfl⟩
theorem engL_S {v : pv_T} {j : Nat} : sameC v (engL v j) := (itP_S _).tr pu_S
theorem engL_3 (v : pv_T) (j : Nat) : v.1 3 ≤ (engL v j).1 3 ∧ (engL v j).1 3 ≤ v.1 3 + 4 := by
  have h1 := itP_3 (v := v) (j := j) (nst v j)
  have h2 := nst_b v j
  show v.1 3 ≤ (itP (nst v j) v j).1 3 ∧ (itP (nst v j) v j).1 3 ≤ v.1 3 + 4
  omega
theorem engL_W {v : pv_T} {j : Nat} (hv : pvW v) (hj : j < v.1 1) : pvW (engL v j) := by
  have hw := itP_W hv hj (nst v j)
  refine pvW_S engL_S hv (fun i hi => ?_) ?_ ?_
  · have h6 := hw.1.2.2.1 i (by show i < (itP (nst v j) v j).1 1; rw [(itP_S _).2.1]; exact hi)
    by_cases c : i = j
    · subst c
      unfold engL
      rw [pu_s]; omega
    · unfold engL
      rw [pu_i c]
      exact ⟨h6.2.2.1, h6.2.2.2.1⟩
  · exact hw.g
  · have := hw.2
    rw [(itP_S _).2.1] at this
    exact this
section LEN
variable {h : am_H} {v : pv_T} {k : Nat}
/-- what is read of the curve, the letters stays -/
theorem cl_cu.S {w : pv_T} (s : sameC v w) (R : cl_cu h k v) : cl_cu h k w := by
  have e : ∀ c, c ≠ 0 → c ≠ 6 → c ≠ 12 → c ≠ 13 → w.2 c = v.2 c := s.2.2.2.1
  unfold cl_cu
  rw [s.1, e 1 (by omega) (by omega) (by omega) (by omega), e 2 (by omega) (by omega) (by omega) (by omega), e 3 (by omega) (by omega) (by omega) (by omega), e 4 (by omega) (by omega) (by omega) (by omega)]
  exact R
theorem k_hdL (hv : pvW v) (R : cl_pl h k v) {j : Nat} (hj : j < v.1 1) : f_X5_hardnessUnder k (iI j) h = some (iI (hdL v j)) := k_hardnessUnder (v := pn v 3 0) hv.1 R.1 R.2.1 hj
theorem k_stks (hv : pvW v) (R : cl_pl h k v) {j : Nat} (hj : j < v.1 1) : f_X4_strokesOf k (iI j) h = some (iI (1 + v.2 5 j % 4)) := k_strokesOf (v := pn v 3 0) hv.1 R.2.1 hj
theorem cl_pl.pu6 {j : Nat} {x : Int} (R : cl_pl h k v) : cl_pl (am_u h (.inr k) 8 j (iI x)) k (pu v 6 j x) := by
  have e : ∀ o, o ≠ 8 → (am_u h (.inr k) 8 j (iI x)).1 (.inr k) o = h.1 (.inr k) o := fun o ho => am_u_row (by simp; exact ho)
  unfold cl_pl cl_cu cl_na cl_ki cl_gr cl_sc at *
  rw [e 0 (by omega), e 1 (by omega), e 2 (by omega), e 3 (by omega), e 4 (by omega), e 5 (by omega), e 6 (by omega), e 7 (by omega), e 9 (by omega), e 10 (by omega), e 11 (by omega), e 12 (by omega), e 13 (by omega), e 14 (by omega), e 15 (by omega), e 16 (by omega), e 17 (by omega), e 18 (by omega), e 19 (by omega)]
  refine ⟨R.1, ⟨R.2.1.1, fun i hi => ⟨(R.2.1.2.1 i hi).1, ?_, (R.2.1.2.1 i hi).2.2⟩, R.2.1.2.2⟩, R.2.2⟩
  rw [au_s]
  show _ = iI (if i = j then x else v.2 6 i)
  by_cases c : i = j
  · rw [if_pos c, if_pos c]
  · rw [if_neg c, if_neg c]
    exact (R.2.1.2.1 i hi).2.1
theorem k_engraveLetter (hv : pvW v) (hn : v.1 3 ≤ 40) (R : cl_pl h k v) {j : Nat} (hj : j < v.1 1) : ∃ h', f_X5_engraveLetter k (iI j) h = some (iI (((engL v j).1 3 : Int) - v.1 3), h') ∧ cl_pl h' k (engL v j) := by
  have hb := nst_b v j
  obtain ⟨s, e1, R1⟩ := ch_rel (fun i s => f_X5_engraveLetter_27 k (iI j) (iI (v.1 3)) (iI (hdL v j)) (iI (nst v j)) (iI i) s) (fun i s => cl_pl s k (itP i v j)) (n := nst v j) (fun i s hi Rs => by
    have hw := itP_W hv hj i
    have h3 := itP_3 (v := v) (j := j) i
    obtain ⟨h1, h2, e1, e2, R2⟩ := k_stroke (j := j) hw (by omega) Rs
    rw [hdL_S (itP_S i)] at e1 e2
    have hb := stk_b (G := gvO (itP i v j)) (hd := hdL v j) hw.g
    refine ⟨h2, ?_, R2⟩
    show f_X5_engraveLetter_27 _ _ _ _ _ _ _ = f_X5_engraveLetter_27 _ _ _ _ _ _ _
    generalize stk (gvO (itP i v j)) (hdL v j) = S at *
    rw [e_X5_engraveLetter_27]
    by_cases c : S.1 ≤ 0
    · rw [if_pos c] at e2
      subst e2
      simp (disch := omega) only [xI_le, xI_lt, xI_eq, xI_0, xI_ib, if_pos, if_neg, if_true, if_false, xI_cl, Int.toNat_natCast, iI_m, iI_a, iI_s, iI_1, xI_n, Option.bind_some, Int.natCast_add, Int.natCast_one, xI_zb, if_bI0, if_bI1, xI_rn, xI_ti, e1]
    · rw [if_neg c] at e2
      simp (disch := omega) only [xI_le, xI_lt, xI_eq, xI_0, xI_ib, if_pos, if_neg, if_true, if_false, xI_cl, Int.toNat_natCast, iI_m, iI_a, iI_s, iI_1, xI_n, Option.bind_some, Int.natCast_add, Int.natCast_one, xI_zb, if_bI0, if_bI1, xI_rn, xI_ti, e1, e2]) (s0 := h) R
  refine ⟨am_u s (.inr k) 8 j (iI 1), ?_, R1.pu6⟩
  unfold f_X5_engraveLetter
  rw [k_hdL hv R hj, Option.bind_some, k_stks hv R hj, Option.bind_some, nst_e, R.2.2.2.2.1.1]
  refine Eq.trans e1 ?_
  show f_X5_engraveLetter_27 _ _ _ _ _ _ _ = _
  have h3 := itP_3 (v := v) (j := j) (nst v j)
  have hj20 := hv.1.1.2.1
  have hj' : j < 20 := Nat.lt_of_lt_of_le hj hj20
  rw [e_X5_engraveLetter_27]
  simp (disch := omega) only [xI_le, xI_lt, xI_eq, xI_0, xI_ib, if_pos, if_neg, if_true, if_false, xI_cl, Int.toNat_natCast, iI_m, iI_a, iI_s, iI_1, xI_n, Option.bind_some, Int.natCast_add, Int.natCast_one, xI_zb, if_bI0, if_bI1, xI_rn, xI_ti, show vp_nar .boolean (iI 1) = iI 1 from rfl, am_lt, am_u_row (show ((.inr k : am_G), 17) ≠ (.inr k, 8) by simp), R1.2.2.2.2.1.1]
  rfl
end LEN
