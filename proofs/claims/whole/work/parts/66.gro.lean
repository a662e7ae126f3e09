/-! the crowded, counted; leastGrowth, mostWidth -/
def mS (c : Nat → Nat) : Nat → Nat
  | 0 => 0
  | i + 1 => mS c i + 2 ^ i * c i
def sN (c : Nat → Nat) : Nat → Nat
  | 0 => 0
  | i + 1 => sN c i + c i
theorem mS_lt {c : Nat → Nat} (hc : ∀ i, c i ≤ 1) : ∀ n, mS c n < 2 ^ n
  | 0 => by show (0 : Nat) < 2 ^ 0; decide
  | n + 1 => by
    have h1 := mS_lt hc n
    have h2 := hc n
    show mS c n + 2 ^ n * c n < 2 ^ (n + 1)
    have h3 : 2 ^ n * c n ≤ 2 ^ n * 1 := Nat.mul_le_mul_left _ h2
    rw [Nat.pow_succ]
    omega
theorem mS_e {c d : Nat → Nat} : ∀ n, (∀ i, i < n → c i = d i) → mS c n = mS d n
  | 0, _ => rfl
  | n + 1, h => by
    show mS c n + 2 ^ n * c n = mS d n + 2 ^ n * d n
    rw [mS_e n (fun i hi => h i (by omega)), h n (by omega)]
theorem sN_e {c d : Nat → Nat} : ∀ n, (∀ i, i < n → c i = d i) → sN c n = sN d n
  | 0, _ => rfl
  | n + 1, h => by
    show sN c n + c n = sN d n + d n
    rw [sN_e n (fun i hi => h i (by omega)), h n (by omega)]
theorem mS_p {c : Nat → Nat} {n : Nat} (h : ∀ i, n ≤ i → c i = 0) : ∀ k, mS c (n + k) = mS c n ∧ sN c (n + k) = sN c n
  | 0 => ⟨rfl, rfl⟩
  | k + 1 => by
    have h1 := mS_p h k
    have h2 := h (n + k) (by omega)
    refine ⟨?_, ?_⟩
    · show mS c (n + k) + 2 ^ (n + k) * c (n + k) = _
      rw [h1.1, h2]; rfl
    · show sN c (n + k) + c (n + k) = _
      rw [h1.2, h2]; rfl
theorem mS_0 {c : Nat → Nat} : ∀ n, mS c n = 0 ↔ sN c n = 0
  | 0 => Iff.rfl
  | n + 1 => by
    have h1 := mS_0 (c := c) n
    have h2 : 2 ^ n * c n = 0 ↔ c n = 0 := by
      have : 0 < 2 ^ n := Nat.two_pow_pos n
      constructor
      · intro z
        rcases Nat.mul_eq_zero.mp z with z | z
        · omega
        · exact z
      · intro z; rw [z]; rfl
    show mS c n + 2 ^ n * c n = 0 ↔ sN c n + c n = 0
    omega
theorem bM_e (c : Nat → Nat) : bM c = mS c 24 := by
  unfold bM
  simp only [mS, Nat.reducePow]
  omega
theorem bS_e (c : Nat → Nat) : bS c = sN c 24 := by
  unfold bS
  simp only [sN]
  omega
theorem ub_or {a b : Nat} (ha : a < 2 ^ 32) (hb : b < 2 ^ 32) : nI a ||| nI b = nI (a ||| b) := by
  apply Int32.toBitVec_inj.mp
  apply BitVec.eq_of_toNat_eq
  rw [Int32.toBitVec_or, BitVec.toNat_or]
  show (BitVec.ofNat 32 a).toNat ||| (BitVec.ofNat 32 b).toNat = (BitVec.ofNat 32 (a ||| b)).toNat
  rw [BitVec.toNat_ofNat, BitVec.toNat_ofNat, BitVec.toNat_ofNat, Nat.mod_eq_of_lt ha, Nat.mod_eq_of_lt hb, Nat.mod_eq_of_lt (Nat.or_lt_two_pow ha hb)]
theorem one_sl : ∀ i : Nat, i < 31 → (iI 1 <<< (iI (i : Int) &&& 31)) = nI (2 ^ i) := by decide +kernel
def cr1 (v : pv_T) (i : Nat) : Nat := if pv_rm v i < 100 * v.2 0 1 then 1 else 0
theorem cr1_b (v : pv_T) (i : Nat) : cr1 v i ≤ 1 := by unfold cr1; split <;> omega
theorem crS_m (v : pv_T) : ∀ n, n ≤ 31 → pv_crS v n = nI (mS (cr1 v) n)
  | 0, _ => rfl
  | n + 1, hn => by
    have h1 := crS_m v n (by omega)
    have h2 := mS_lt (cr1_b v) n
    have hp : 2 ^ n < 2 ^ 32 := Nat.pow_lt_pow_right (by decide) (by omega)
    by_cases c : pv_rm v n < 100 * v.2 0 1
    · rw [show pv_crS v (n + 1) = pv_crS v n ||| (iI 1 <<< (iI n &&& 31)) from if_pos c, h1, one_sl n (by omega), ub_or (by omega) hp]
      show _ = nI (mS (cr1 v) n + 2 ^ n * cr1 v n)
      rw [show cr1 v n = 1 from if_pos c]
      congr 1
      have := Nat.two_pow_add_eq_or_of_lt h2 1
      rw [Nat.or_comm]
      rw [Nat.mul_one] at this ⊢
      omega
    · rw [show pv_crS v (n + 1) = pv_crS v n from if_neg c, h1]
      show _ = nI (mS (cr1 v) n + 2 ^ n * cr1 v n)
      rw [show cr1 v n = 0 from if_neg c]
      rfl
def crN (v : pv_T) : Nat := cN (fun i => decide (pv_rm v i < 100 * v.2 0 1)) (v.1 1 + 1)
theorem crN_s (v : pv_T) : ∀ n, cN (fun i => decide (pv_rm v i < 100 * v.2 0 1)) n = sN (cr1 v) n
  | 0 => rfl
  | n + 1 => by
    have h1 := crN_s v n
    by_cases c : pv_rm v n < 100 * v.2 0 1
    · rw [cN_t (by simp [c]), h1]
      show _ = sN (cr1 v) n + cr1 v n
      rw [show cr1 v n = 1 from if_pos c]
    · rw [cN_f (by simp [c]), h1]
      show _ = sN (cr1 v) n + cr1 v n
      rw [show cr1 v n = 0 from if_neg c]
      rfl
theorem crN_le (v : pv_T) : crN v ≤ v.1 1 + 1 := cN_le _ _
theorem crS_0 {v : pv_T} (hn : v.1 1 ≤ 20) : (pv_crS v (v.1 1 + 1) = 0) = (crN v = 0) := by
  have h1 := mS_lt (cr1_b v) (v.1 1 + 1)
  have hp : 2 ^ (v.1 1 + 1) ≤ 2 ^ 21 := Nat.pow_le_pow_right (by decide) (by omega)
  have hp2 : (2 : Nat) ^ 21 = 2097152 := rfl
  unfold crN
  rw [crS_m v _ (by omega), crN_s, iI_nI, xI_0, xI_eq (by omega) (by omega) (by omega) (by omega)]
  have h2 := mS_0 (c := cr1 v) (v.1 1 + 1)
  apply propext
  rw [← h2]
  omega
theorem crS_bc {v : pv_T} (hn : v.1 1 ≤ 20) : f_J6_bitCount_0f7a4 (pv_crS v (v.1 1 + 1)) = some (iI (crN v)) := by
  let c : Nat → Nat := fun i => if i < v.1 1 + 1 then cr1 v i else 0
  have hc : ∀ i, c i ≤ 1 := fun i => by
    show (if i < v.1 1 + 1 then cr1 v i else 0) ≤ 1
    have := cr1_b v i
    split <;> omega
  have h0 : ∀ i, v.1 1 + 1 ≤ i → c i = 0 := fun i hi => if_neg (by omega)
  have h1 : ∀ i, i < v.1 1 + 1 → cr1 v i = c i := fun i hi => (if_pos hi).symm
  have hp := mS_p h0 (24 - (v.1 1 + 1))
  rw [show v.1 1 + 1 + (24 - (v.1 1 + 1)) = 24 by omega] at hp
  have e := bitCount_e hc
  rw [bM_e, bS_e, hp.1, hp.2, ← mS_e _ h1, ← sN_e _ h1, ← crS_m v _ (by omega), ← crN_s, iI_nI] at e
  exact e
section GRO
variable {h : am_H} {st : St} {v : pv_T}
theorem k_crTrial (hv : pv_ok v) (Rc : cl_cu h 2 v) (Rn : cl_na h 2 v) (Rm : h.1 (.inr 2) 0 5 = iI (v.2 0 1)) : ∃ h', f_X11_crowdedOfTrial h = some (pv_crS v (v.1 1 + 1), h') := by
  obtain ⟨hm, em, Rl⟩ := k_measure hv Rc Rn
  have wm := wr_X3_measure em
  refine ⟨hm, ?_⟩
  unfold f_X11_crowdedOfTrial
  rw [em, Option.bind_some, wm.P (k := 2) (by simp), Rm, k_crowdedRooms hv Rl, Option.bind_some]
def growA (v : pv_T) (n : Nat) : pv_T := (v.1, fun c i => if c = 1 then v.2 1 i + n else v.2 c i)
theorem growA_ok (hv : pvA v) {n : Nat} (hn : n ≤ 100) : pv_ok (growA v n) := by
  obtain ⟨⟨h1, h2, h3, h4, h5, h6, h7⟩, h9, -⟩ := hv
  refine ⟨h1, fun i hi => ?_, h3, h4, h5, h6, h7⟩
  have a := h2 i hi
  have b := h9 i hi
  refine ⟨?_, ?_, a.2.2⟩
  · show 1 ≤ v.2 1 i + n; omega
  · show v.2 1 i + n ≤ 199; omega
theorem k_grow {n : Nat} (hv : pv_ok v) (hn : n ≤ 100) {k : Nat} (R : cl_cu h k (growA v n)) : ∃ h', f_X0_growByOne k h = some h' ∧ cl_cu h' k (growA v (n + 1)) := by
  have h8 : v.1 0 ≤ 8 := hv.1.1
  obtain ⟨s, e1, r1, r2, r3⟩ := ch_rel (fun i s => f_X0_growByOne_2 k (iI i) s) (fun i s => (∀ o, o ≠ 2 → s.1 (.inr k) o = h.1 (.inr k) o) ∧ (∀ j, j < i → s.1 (.inr k) 2 j = iI (v.2 1 j + n + 1)) ∧ ∀ j, i ≤ j → s.1 (.inr k) 2 j = h.1 (.inr k) 2 j) (n := v.1 0) (fun i s hi hs => by
    obtain ⟨p1, p2, p3⟩ := hs
    have q : h.1 (.inr k) 2 i = iI (v.2 1 i + n) := (R.2 i hi).1
    refine ⟨am_u s (.inr k) 2 i (iI (v.2 1 i + n + 1)), ?_, fun o ho => by rw [am_u_row (by simp; exact ho)]; exact p1 o ho, fun j hj => ?_, fun j hj => by rw [au_s, if_neg (by omega)]; exact p3 j (by omega)⟩
    · show f_X0_growByOne_2 _ _ _ = f_X0_growByOne_2 _ _ _
      have r4 : h.1 (.inr k) 1 4 = iI (v.1 0) := R.1
      rw [e_X0_growByOne_2]
      simp (disch := omega) only [xI_le, xI_lt, xI_eq, xI_0, xI_ib, if_pos, if_neg, if_true, if_false, xI_cl, Int.toNat_natCast, iI_m, iI_a, iI_s, iI_1, xI_n, Option.bind_some, Int.natCast_add, Int.natCast_one, xI_zb, if_bI0, if_bI1, xI_rn, xI_ti, p1 1 (by omega), r4, p3 i (by omega), q, am_lt]
    · rw [au_s]
      by_cases c : j = i
      · rw [if_pos c, c]
      · rw [if_neg c]; exact p2 j (by omega)) (s0 := h) ⟨fun o _ => rfl, fun j hj => absurd hj (Nat.not_lt_zero j), fun j _ => rfl⟩
  refine ⟨s, ?_, ?_⟩
  · refine Eq.trans e1 ?_
    show f_X0_growByOne_2 _ _ _ = _
    have r4 : h.1 (.inr k) 1 4 = iI (v.1 0) := R.1
    rw [e_X0_growByOne_2]
    simp (disch := omega) only [xI_le, xI_lt, xI_eq, xI_0, xI_ib, if_pos, if_neg, if_true, if_false, xI_cl, Int.toNat_natCast, iI_m, iI_a, iI_s, iI_1, xI_n, Option.bind_some, Int.natCast_add, Int.natCast_one, xI_zb, if_bI0, if_bI1, xI_rn, xI_ti, r1 1 (by omega), r4]
  · unfold cl_cu
    rw [r1 1 (by omega), r1 3 (by omega), r1 4 (by omega), r1 5 (by omega)]
    refine ⟨R.1, fun i hi => ⟨?_, (R.2 i hi).2⟩⟩
    rw [r2 i hi]
    show _ = iI (v.2 1 i + ((n + 1 : Nat) : Int))
    rw [Int.natCast_add, Int.natCast_one, Int.add_assoc]
def lgP (v : pv_T) : Nat := pv_fst (fun i => decide (crN (growA v i) = 0)) 100 0
def oLg (v : pv_T) : Int := if lgP v < 100 then (lgP v : Int) else -1
theorem cl_leastGrowth (ok : Ok st) (R : ClR h st) : ∃ h1, f_X11_leastGrowth h = some (iI (oLg st.1), h1) ∧ ClR h1 st ∧ MFr h h1 := by
  have hv := ok.1.1
  have h20 := hv.1.2.1
  have hm := pv_fst_le (fun i => decide (crN (growA st.1 i) = 0)) 100 0
  have hat := pv_fst_at (fun i => decide (crN (growA st.1 i) = 0)) 100 0
  have hlt := pv_fst_lt (fun i => decide (crN (growA st.1 i) = 0)) 100 0
  simp only [decide_eq_true_eq, decide_eq_false_iff_not] at hat hlt
  unfold oLg lgP
  generalize pv_fst (fun i => decide (crN (growA st.1 i) = 0)) 100 0 = m at hm hat hlt ⊢
  obtain ⟨h0, e0, R0⟩ := k_copyPl (k := 2) (k2 := 0) (by omega) hv R.1
  have w0 := wr_X5_copyFrom e0
  have key : ∀ {i : Nat} {s : am_H}, i ≤ 100 → cl_cu s 2 (growA st.1 i) ∧ cl_na s 2 st.1 ∧ s.1 (.inr 2) 0 5 = iI (st.1.2 0 1) → ∃ h1, f_X11_crowdedOfTrial s = some (pv_crS (growA st.1 i) (st.1.1 1 + 1), h1) ∧ Wr [(.inl 1, 4), (.inl 1, 3)] s h1 := fun hi p => by
    obtain ⟨h1, e1⟩ := k_crTrial (growA_ok ok.1 hi) p.1 p.2.1 p.2.2
    exact ⟨h1, e1, wr_X11_crowdedOfTrial e1⟩
  obtain ⟨s, e1, P1, C1, M1⟩ := ch_rel (fun i s => f_X11_leastGrowth_13 (iI i) s) (fun i s => (cl_cu s 2 (growA st.1 i) ∧ cl_na s 2 st.1 ∧ s.1 (.inr 2) 0 5 = iI (st.1.2 0 1)) ∧ ClR s st ∧ MFr h s) (n := m) (fun i s hi hs => by
    obtain ⟨P, C, M⟩ := hs
    obtain ⟨h1, e1, w1⟩ := key (i := i) (by omega) P
    have h9 := hlt i (by omega) hi
    have hz := crS_0 (v := growA st.1 i) h20
    have P1 := w1.P (k := 2) (by simp)
    obtain ⟨h2, e2, R2⟩ := k_grow (n := i) hv (by omega) (P.1.eq P1)
    have w2 := wr_X0_growByOne e2
    refine ⟨h2, ?_, ⟨R2, ?_, ?_⟩, ClR.wr w2 rfl (ClR.wr w1 rfl C), M.tr ((w1.MF rfl).tr (w2.MF rfl))⟩
    · show f_X11_leastGrowth_13 _ _ = f_X11_leastGrowth_13 _ _
      rw [e_X11_leastGrowth_13]
      simp (disch := omega) only [xI_le, xI_lt, xI_eq, xI_0, xI_ib, if_pos, if_neg, if_true, if_false, xI_cl, Int.toNat_natCast, iI_m, iI_a, iI_s, iI_1, xI_n, Option.bind_some, Int.natCast_add, Int.natCast_one, xI_zb, if_bI0, if_bI1, xI_rn, xI_ti, e1, e2]
      exact if_neg (fun z => h9 (Eq.mp hz z))
    · have q := P.2.1.eq P1
      unfold cl_na at q ⊢
      rw [w2.1 _ _ (by simp), w2.1 _ 7 (by simp), w2.1 _ 8 (by simp), w2.1 _ 9 (by simp), w2.1 _ 10 (by simp)]
      exact q
    · rw [w2.1 _ _ (by simp), P1]; exact P.2.2) (s0 := h0) ⟨⟨by
        have q := R0.1
        have e : ∀ i, (growA st.1 0).2 1 i = st.1.2 1 i := fun i => Int.add_zero _
        exact ⟨q.1, fun i hi => by rw [e]; exact q.2 i hi⟩, R0.2.1, R0.2.2.2.2.2⟩, ClR.wr w0 rfl R, w0.MF rfl⟩
  have e9 : f_X11_leastGrowth h = f_X11_leastGrowth_13 (iI m) s := by
    unfold f_X11_leastGrowth
    rw [e0, Option.bind_some]
    exact e1
  by_cases c : m < 100
  · obtain ⟨h1, e2, w1⟩ := key (i := m) (by omega) P1
    have h9 := hat (by omega)
    have hz := crS_0 (v := growA st.1 m) h20
    refine ⟨h1, ?_, ClR.wr w1 rfl C1, M1.tr (w1.MF rfl)⟩
    rw [e9, e_X11_leastGrowth_13, if_pos c]
    simp (disch := omega) only [xI_le, xI_lt, xI_eq, xI_0, xI_ib, if_pos, if_neg, if_true, if_false, xI_cl, Int.toNat_natCast, iI_m, iI_a, iI_s, iI_1, xI_n, Option.bind_some, Int.natCast_add, Int.natCast_one, xI_zb, if_bI0, if_bI1, xI_rn, xI_ti, e2]
    exact if_pos (Eq.mpr hz h9)
  · refine ⟨s, ?_, C1, M1⟩
    rw [e9, e_X11_leastGrowth_13, if_neg c]
    simp (disch := omega) only [xI_le, xI_lt, xI_eq, xI_0, xI_ib, if_pos, if_neg, if_true, if_false, xI_cl, Int.toNat_natCast, iI_m, iI_a, iI_s, iI_1, xI_n, Option.bind_some, Int.natCast_add, Int.natCast_one, xI_zb, if_bI0, if_bI1, xI_rn, xI_ti]
end GRO
