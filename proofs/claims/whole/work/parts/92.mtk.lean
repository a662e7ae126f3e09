/-! tokens, the reference's -/
def mo_b (h : am_H) (b : bfT) : Prop := h.1 (.inl 0) 0 3 = iI b.1 ∧ ∀ i, i < b.1 → h.1 (.inl 0) 1 i = iI (b.2 i)
def hr (b : bfT) (i : Nat) : Int := if i < b.1 then b.2 i else -1
def mo_t0 (h : am_H) (b : bfT) (T : Tk) : Prop := mo_b h b ∧ h.1 (.inl 0) 0 4 = iI T.2.2 ∧ h.1 (.inl 0) 0 5 = iI T.2.1 ∧ h.1 (.inl 0) 0 6 = iI T.1 ∧ (T.1 = 1 → h.2.1 (.inl 0) 0 12 = lN (pkN (wdF b T) (T.2.2 - T.2.1))) ∧ (T.1 = 2 → h.1 (.inl 0) 0 7 = iI (nvT b T)) ∧ (T.1 = 3 → h.1 (.inl 0) 0 7 = iI (b.2 T.2.1))
theorem hr_b {b : bfT} (hb : bOk b) (i : Nat) : -1 ≤ hr b i ∧ hr b i ≤ 255 := by
  have := hb.2 i
  unfold hr
  split <;> omega
theorem wd_s {x : Nat} {c : Int} (hx : x < 2 ^ 40) (hc : 97 ≤ c ∧ c ≤ 122) : (lN x <<< ((iI 5).toInt64 &&& 63)) ||| (iI (c - 97 + 1)).toInt64 = lN (x * 32 + (c - 96).toNat) := by
  have h1 : lN x <<< ((iI 5).toInt64 &&& 63) = lN (x * 2 ^ 5) := by
    have := wb_shl x (k := 5) (by omega)
    rw [iI_nI 5] at this
    exact this
  have h2 : (iI (c - 97 + 1)).toInt64 = lN (c - 96).toNat := lN_ij (by omega) (by rw [xL_i (by omega) (by omega)]; omega)
  rw [h1, h2, wb_or (by omega) (by omega)]
  congr 1
  have := Nat.two_pow_add_eq_or_of_lt (i := 5) (b := (c - 96).toNat) (by omega) x
  rw [Nat.mul_comm x (2 ^ 5), ← this]
section MTK
variable {h : am_H} {b : bfT} {T : Tk}
theorem m_here (hb : bOk b) (R : mo_b h b) {p n : Nat} (r4 : h.1 (.inl 0) 0 4 = iI p) (hp : p ≤ 500) (hn : n ≤ 500) : f_X12_here (iI n) h = some (iI (hr b (p + n))) := by
  have hb1 := hb.1
  unfold f_X12_here hr
  by_cases c : p + n < b.1
  · simp (disch := omega) only [xI_le, xI_lt, xI_eq, xI_0, xI_ib, if_pos, if_neg, if_true, if_false, xI_cl, Int.toNat_natCast, iI_m, iI_a, iI_s, iI_1, xI_n, Option.bind_some, Int.natCast_add, Int.natCast_one, xI_zb, if_bI0, if_bI1, xI_rn, xI_ti, R.1, r4, R.2 (p + n) c, show ((p : Int) + (n : Int)).toNat = p + n from by omega]
  · simp (disch := omega) only [xI_le, xI_lt, xI_eq, xI_0, xI_ib, if_pos, if_neg, if_true, if_false, xI_cl, Int.toNat_natCast, iI_m, iI_a, iI_s, iI_1, xI_n, Option.bind_some, Int.natCast_add, Int.natCast_one, xI_zb, if_bI0, if_bI1, xI_rn, xI_ti, R.1, r4]
theorem m_isDig {x : Int} (hx : -2147483648 ≤ x ∧ x < 2147483648) : f_X12_isDigit (iI x) = some (iI (bI (48 ≤ x ∧ x ≤ 57))) := by
  unfold f_X12_isDigit bI
  simp (disch := omega) only [xI_le, xI_lt, xI_eq, xI_0, xI_ib, if_pos, if_neg, if_true, if_false, xI_cl, Int.toNat_natCast, iI_m, iI_a, iI_s, iI_1, xI_n, Option.bind_some, Int.natCast_add, Int.natCast_one, xI_zb, if_bI0, if_bI1, xI_rn, xI_ti]
  (repeat' split) <;> first | rfl | (exfalso; omega)
theorem mo_b.eq {h' : am_H} (e3 : h'.1 (.inl 0) 0 3 = h.1 (.inl 0) 0 3) (e1 : h'.1 (.inl 0) 1 = h.1 (.inl 0) 1) (R : mo_b h b) : mo_b h' b := by
  unfold mo_b at *
  rw [e3, e1]; exact R
/-- letters -/
theorem m_go76 (hb : bOk b) {s : Nat} (R : mo_b h b) (hs : s < b.1) (c1 : 97 ≤ b.2 s ∧ b.2 s ≤ 122) (r4 : h.1 (.inl 0) 0 4 = iI s) (r12 : h.2.1 (.inl 0) 0 12 = lN 0) : ∃ h', f_X12_goOn_76 (iI 0) h = some h' ∧ h'.1 (.inl 0) 0 4 = iI (run b.2 97 122 b.1 s) ∧ h'.1 (.inl 0) 0 6 = iI (if run b.2 97 122 b.1 s ≤ s + 8 then 1 else 4) ∧ (run b.2 97 122 b.1 s ≤ s + 8 → h'.2.1 (.inl 0) 0 12 = lN (pkN (fun i => b.2 (s + i)) (run b.2 97 122 b.1 s - s))) ∧ h'.1 (.inl 0) 1 = h.1 (.inl 0) 1 ∧ ∀ j, j ≠ 4 → j ≠ 6 → h'.1 (.inl 0) 0 j = h.1 (.inl 0) 0 j := by
  have hb1 := hb.1
  have h1 := run_le b.2 97 122 (n := b.1) (a := s) (by omega)
  have h3 := fun j (a1 : s ≤ j) (a2 : j < run b.2 97 122 b.1 s) => run_in a1 a2
  have h4 := fun (z : run b.2 97 122 b.1 s < b.1) => run_at (b := b.2) (lo := 97) (hi := 122) (n := b.1) (a := s) (by omega) z
  generalize run b.2 97 122 b.1 s = m at *
  obtain ⟨t, e1, p1, p2, p3⟩ := ch_rel (fun i t => f_X12_goOn_76 (iI i) t) (fun i t => t.1 = h.1 ∧ (i ≤ 8 → t.2.1 (.inl 0) 0 12 = lN (pkN (fun i => b.2 (s + i)) i)) ∧ t.2.2 = h.2.2) (n := m - s) (fun i t hi ht => by
    obtain ⟨p1, p2, p3⟩ := ht
    have Rt : mo_b t b := R.eq (by rw [p1]) (by rw [p1])
    have e := m_here hb Rt (p := s) (n := i) (by rw [p1]; exact r4) (by omega) (by omega)
    have hc := h3 (s + i) (by omega) (by omega)
    have eh : hr b (s + i) = b.2 (s + i) := if_pos (by omega)
    rw [eh] at e
    have el := m_isLet (x := b.2 (s + i)) (by omega)
    rw [show bI (97 ≤ b.2 (s + i) ∧ b.2 (s + i) ≤ 122) = 1 from if_pos hc] at el
    by_cases d : i < 8
    · have ew := p2 (by omega)
      have hp := (pkN_b (f := fun i => b.2 (s + i)) (n := i) (fun j hj => h3 (s + j) (by omega) (by omega))).1
      have hq := pw32 (n := i) (by omega)
      refine ⟨am_ul t (.inl 0) 0 12 (lN (pkN (fun i => b.2 (s + i)) (i + 1))), ?_, p1, fun _ => ?_, p3⟩
      · show f_X12_goOn_76 _ _ = f_X12_goOn_76 _ _
        have eps : pkN (fun i => b.2 (s + i)) (i + 1) = pkN (fun i => b.2 (s + i)) i * 32 + (b.2 (s + i) - 96).toNat := pkN_s (f := fun i => b.2 (s + i)) hc
        rw [eps, ← wd_s (by omega) hc, ← ew]
        rw [e_X12_goOn_76]
        simp (disch := omega) only [xI_le, xI_lt, xI_eq, xI_0, xI_ib, if_pos, if_neg, if_true, if_false, xI_cl, Int.toNat_natCast, iI_m, iI_a, iI_s, iI_1, xI_n, Option.bind_some, Int.natCast_add, Int.natCast_one, xI_zb, if_bI0, if_bI1, xI_rn, xI_ti, e, el, am_lt]
      · rw [am_ul_self, vpL, if_pos rfl]
    · refine ⟨t, ?_, p1, fun z => absurd z (by omega), p3⟩
      show f_X12_goOn_76 _ _ = f_X12_goOn_76 _ _
      rw [e_X12_goOn_76]
      simp (disch := omega) only [xI_le, xI_lt, xI_eq, xI_0, xI_ib, if_pos, if_neg, if_true, if_false, xI_cl, Int.toNat_natCast, iI_m, iI_a, iI_s, iI_1, xI_n, Option.bind_some, Int.natCast_add, Int.natCast_one, xI_zb, if_bI0, if_bI1, xI_rn, xI_ti, e, el]) (s0 := h) ⟨rfl, fun _ => r12, rfl⟩
  have Rt : mo_b t b := R.eq (by rw [p1]) (by rw [p1])
  have e := m_here hb Rt (p := s) (n := m - s) (by rw [p1]; exact r4) (by omega) (by omega)
  rw [show s + (m - s) = m by omega] at e
  have hhb := hr_b hb m
  have hnl : ¬ (97 ≤ hr b m ∧ hr b m ≤ 122) := by
    unfold hr
    by_cases z : m < b.1
    · rw [if_pos z]; exact h4 z
    · rw [if_neg z]; omega
  have el := m_isLet (x := hr b m) (by omega)
  rw [show bI (97 ≤ hr b m ∧ hr b m ≤ 122) = 0 from if_neg hnl] at el
  have t4 : t.1 (.inl 0) 0 4 = iI s := by rw [p1]; exact r4
  generalize hr b m = y at *
  refine ⟨am_u (am_u t (.inl 0) 0 6 (iI ((if m ≤ s + 8 then 1 else 4 : Nat) : Int))) (.inl 0) 0 4 (iI m), ?_, ?_, ?_, fun z => ?_, ?_, fun j h4 h6 => ?_⟩
  · refine Eq.trans e1 ?_
    show f_X12_goOn_76 _ _ = _
    rw [e_X12_goOn_76]
    by_cases d : m ≤ s + 8
    · simp (disch := omega) only [xI_le, xI_lt, xI_eq, xI_0, xI_ib, if_pos, if_neg, if_true, if_false, xI_cl, Int.toNat_natCast, iI_m, iI_a, iI_s, iI_1, xI_n, Option.bind_some, Int.natCast_add, Int.natCast_one, xI_zb, if_bI0, if_bI1, xI_rn, xI_ti, e, el, e_X12_goOn_133, am_lt, au_s, t4, show (s : Int) + ((m - s : Nat) : Int) = m from by omega]
      try rfl
    · simp (disch := omega) only [xI_le, xI_lt, xI_eq, xI_0, xI_ib, if_pos, if_neg, if_true, if_false, xI_cl, Int.toNat_natCast, iI_m, iI_a, iI_s, iI_1, xI_n, Option.bind_some, Int.natCast_add, Int.natCast_one, xI_zb, if_bI0, if_bI1, xI_rn, xI_ti, e, el, e_X12_goOn_133, am_lt, au_s, t4, show (s : Int) + ((m - s : Nat) : Int) = m from by omega]
      try rfl
  · rw [au_s, if_pos rfl]
  · rw [au_s, if_neg (by omega), au_s, if_pos rfl]
    split <;> rfl
  · exact p2 (by omega)
  · rw [am_u_row (by simp), am_u_row (by simp), p1]
  · rw [au_s, if_neg h4, au_s, if_neg h6, p1]
/-- digits -/
theorem m_go146 (hb : bOk b) {s : Nat} (R : mo_b h b) (hs : s < b.1) (c1 : 48 ≤ b.2 s ∧ b.2 s ≤ 57) (r4 : h.1 (.inl 0) 0 4 = iI s) (r7 : h.1 (.inl 0) 0 7 = iI 0) : ∃ h', f_X12_goOn_146 (iI 0) h = some h' ∧ h'.1 (.inl 0) 0 4 = iI (run b.2 48 57 b.1 s) ∧ h'.1 (.inl 0) 0 6 = iI (if run b.2 48 57 b.1 s ≤ s + 3 then 2 else 4) ∧ (run b.2 48 57 b.1 s ≤ s + 3 → h'.1 (.inl 0) 0 7 = iI (nV b s (run b.2 48 57 b.1 s - s))) ∧ h'.1 (.inl 0) 1 = h.1 (.inl 0) 1 ∧ ∀ j, j ≠ 4 → j ≠ 6 → j ≠ 7 → h'.1 (.inl 0) 0 j = h.1 (.inl 0) 0 j := by
  have hb1 := hb.1
  have h1 := run_le b.2 48 57 (n := b.1) (a := s) (by omega)
  have h3 := fun j (a1 : s ≤ j) (a2 : j < run b.2 48 57 b.1 s) => run_in a1 a2
  have h4 := fun (z : run b.2 48 57 b.1 s < b.1) => run_at (b := b.2) (lo := 48) (hi := 57) (n := b.1) (a := s) (by omega) z
  generalize run b.2 48 57 b.1 s = m at *
  obtain ⟨t, e1, p1, p2, p3⟩ := ch_rel (fun i t => f_X12_goOn_146 (iI i) t) (fun i t => (∀ j, j ≠ 7 → t.1 (.inl 0) 0 j = h.1 (.inl 0) 0 j) ∧ (i ≤ 3 → t.1 (.inl 0) 0 7 = iI (nV b s i)) ∧ t.1 (.inl 0) 1 = h.1 (.inl 0) 1) (n := m - s) (fun i t hi ht => by
    obtain ⟨p1, p2, p3⟩ := ht
    have Rt : mo_b t b := R.eq (p1 3 (by omega)) p3
    have e := m_here hb Rt (p := s) (n := i) (by rw [p1 4 (by omega)]; exact r4) (by omega) (by omega)
    have hc := h3 (s + i) (by omega) (by omega)
    have eh : hr b (s + i) = b.2 (s + i) := if_pos (by omega)
    rw [eh] at e
    have el := m_isDig (x := b.2 (s + i)) (by omega)
    rw [show bI (48 ≤ b.2 (s + i) ∧ b.2 (s + i) ≤ 57) = 1 from if_pos hc] at el
    by_cases d : i < 3
    · have ew := p2 (by omega)
      have hnb := nV_b3 (b := b) (s := s) (n := i) (by omega) (fun j a c => h3 j a (by omega))
      have en : nV b s (i + 1) = 10 * nV b s i + b.2 (s + i) - 48 := rfl
      refine ⟨am_u t (.inl 0) 0 7 (iI (nV b s (i + 1))), ?_, fun j hj => by rw [au_s, if_neg hj]; exact p1 j hj, fun _ => by rw [au_s, if_pos rfl], by rw [am_u_row (by simp)]; exact p3⟩
      show f_X12_goOn_146 _ _ = f_X12_goOn_146 _ _
      rw [e_X12_goOn_146, en]
      simp (disch := omega) only [xI_le, xI_lt, xI_eq, xI_0, xI_ib, if_pos, if_neg, if_true, if_false, xI_cl, Int.toNat_natCast, iI_m, iI_a, iI_s, iI_1, xI_n, Option.bind_some, Int.natCast_add, Int.natCast_one, xI_zb, if_bI0, if_bI1, xI_rn, xI_ti, e, el, ew, am_lt]
    · refine ⟨t, ?_, p1, fun z => absurd z (by omega), p3⟩
      show f_X12_goOn_146 _ _ = f_X12_goOn_146 _ _
      rw [e_X12_goOn_146]
      simp (disch := omega) only [xI_le, xI_lt, xI_eq, xI_0, xI_ib, if_pos, if_neg, if_true, if_false, xI_cl, Int.toNat_natCast, iI_m, iI_a, iI_s, iI_1, xI_n, Option.bind_some, Int.natCast_add, Int.natCast_one, xI_zb, if_bI0, if_bI1, xI_rn, xI_ti, e, el]) (s0 := h) ⟨fun _ _ => rfl, fun _ => r7, rfl⟩
  have Rt : mo_b t b := R.eq (p1 3 (by omega)) p3
  have t4 : t.1 (.inl 0) 0 4 = iI s := by rw [p1 4 (by omega)]; exact r4
  have e := m_here hb Rt (p := s) (n := m - s) t4 (by omega) (by omega)
  rw [show s + (m - s) = m by omega] at e
  have hhb := hr_b hb m
  have hnl : ¬ (48 ≤ hr b m ∧ hr b m ≤ 57) := by
    unfold hr
    by_cases z : m < b.1
    · rw [if_pos z]; exact h4 z
    · rw [if_neg z]; omega
  have el := m_isDig (x := hr b m) (by omega)
  rw [show bI (48 ≤ hr b m ∧ hr b m ≤ 57) = 0 from if_neg hnl] at el
  generalize hr b m = y at *
  refine ⟨am_u (am_u t (.inl 0) 0 6 (iI ((if m ≤ s + 3 then 2 else 4 : Nat) : Int))) (.inl 0) 0 4 (iI m), ?_, ?_, ?_, fun z => ?_, ?_, fun j h4 h6 h7 => ?_⟩
  · refine Eq.trans e1 ?_
    show f_X12_goOn_146 _ _ = _
    rw [e_X12_goOn_146]
    by_cases d : m ≤ s + 3
    · simp (disch := omega) only [xI_le, xI_lt, xI_eq, xI_0, xI_ib, if_pos, if_neg, if_true, if_false, xI_cl, Int.toNat_natCast, iI_m, iI_a, iI_s, iI_1, xI_n, Option.bind_some, Int.natCast_add, Int.natCast_one, xI_zb, if_bI0, if_bI1, xI_rn, xI_ti, e, el, e_X12_goOn_199, am_lt, au_s, t4, show (s : Int) + ((m - s : Nat) : Int) = m from by omega]
      try rfl
    · simp (disch := omega) only [xI_le, xI_lt, xI_eq, xI_0, xI_ib, if_pos, if_neg, if_true, if_false, xI_cl, Int.toNat_natCast, iI_m, iI_a, iI_s, iI_1, xI_n, Option.bind_some, Int.natCast_add, Int.natCast_one, xI_zb, if_bI0, if_bI1, xI_rn, xI_ti, e, el, e_X12_goOn_199, am_lt, au_s, t4, show (s : Int) + ((m - s : Nat) : Int) = m from by omega]
      try rfl
  · rw [au_s, if_pos rfl]
  · rw [au_s, if_neg (by omega), au_s, if_pos rfl]
    split <;> rfl
  · rw [au_s, if_neg (by omega), au_s, if_neg (by omega)]; exact p2 (by omega)
  · rw [am_u_row (by simp), am_u_row (by simp), p3]
  · rw [au_s, if_neg h4, au_s, if_neg h6, p1 j h7]
theorem m_goBl (hb : bOk b) (R : mo_b h b) {p : Nat} (hp : p ≤ b.1) (r4 : h.1 (.inl 0) 0 4 = iI p) : ∃ t, f_X12_goOn_0 h = f_X12_goOn_0 t ∧ t.1 (.inl 0) 0 4 = iI (bl b p) ∧ (∀ j, j ≠ 4 → t.1 (.inl 0) 0 j = h.1 (.inl 0) 0 j) ∧ t.1 (.inl 0) 1 = h.1 (.inl 0) 1 := by
  have hb1 := hb.1
  have hle := bl_le hp
  obtain ⟨t, e1, p1, p2, p3⟩ := ch_rel (fun (i : Nat) t => f_X12_goOn_0 t) (fun i t => t.1 (.inl 0) 0 4 = iI ((p + i : Nat) : Int) ∧ (∀ j, j ≠ 4 → t.1 (.inl 0) 0 j = h.1 (.inl 0) 0 j) ∧ t.1 (.inl 0) 1 = h.1 (.inl 0) 1) (n := bl b p - p) (fun i t hi ht => by
    obtain ⟨p1, p2, p3⟩ := ht
    have Rt : mo_b t b := R.eq (p2 3 (by omega)) p3
    have e := m_here hb Rt (p := p + i) (n := 0) p1 (by omega) (by omega)
    have hbl := bl_in (b := b) (p := p) (j := p + i) (by omega) (by omega)
    have eh : hr b (p + i + 0) = b.2 (p + i) := if_pos (by omega)
    rw [eh] at e
    have e' : f_X12_here (iI 0) t = some (iI (b.2 (p + i))) := e
    refine ⟨am_u t (.inl 0) 0 4 (iI ((p : Int) + i + 1)), ?_, ?_, fun j hj => by rw [au_s, if_neg hj]; exact p2 j hj, by rw [am_u_row (by simp)]; exact p3⟩
    · show f_X12_goOn_0 t = f_X12_goOn_0 _
      rw [Int.natCast_add] at p1
      rw [e_X12_goOn_0]
      rcases hbl with d | d
      · rw [d] at e'
        simp (disch := omega) only [xI_le, xI_lt, xI_eq, xI_0, xI_ib, if_pos, if_neg, if_true, if_false, xI_cl, Int.toNat_natCast, iI_m, iI_a, iI_s, iI_1, xI_n, Option.bind_some, Int.natCast_add, Int.natCast_one, xI_zb, if_bI0, if_bI1, xI_rn, xI_ti, e', am_lt, p1]
      · rw [d] at e'
        simp (disch := omega) only [xI_le, xI_lt, xI_eq, xI_0, xI_ib, if_pos, if_neg, if_true, if_false, xI_cl, Int.toNat_natCast, iI_m, iI_a, iI_s, iI_1, xI_n, Option.bind_some, Int.natCast_add, Int.natCast_one, xI_zb, if_bI0, if_bI1, xI_rn, xI_ti, e', am_lt, p1]
    · rw [au_s, if_pos rfl]
      congr 1) (s0 := h) ⟨by rw [r4]; rfl, fun _ _ => rfl, rfl⟩
  refine ⟨t, e1, ?_, p2, p3⟩
  rw [p1, show p + (bl b p - p) = bl b p by omega]
theorem m_goOn (hb : bOk b) (R : mo_b h b) {p : Nat} (hp : p ≤ b.1) (r4 : h.1 (.inl 0) 0 4 = iI p) : ∃ h', f_X12_goOn h = some h' ∧ mo_t0 h' b (tkA b p) ∧ ∀ j, j < 4 ∨ 7 < j → h'.1 (.inl 0) 0 j = h.1 (.inl 0) 0 j := by
  have hb1 := hb.1
  have hle := bl_le hp
  obtain ⟨t, e0, t4, tj, t1⟩ := m_goBl hb R hp r4
  have hat := fun z => bl_at (b := b) hp z
  unfold tkA
  generalize bl b p = s at *
  have Rt : mo_b t b := R.eq (tj 3 (by omega)) t1
  have e := m_here hb Rt (p := s) (n := 0) t4 (by omega) (by omega)
  have e' : f_X12_here (iI 0) t = some (iI (hr b s)) := e
  have hhb := hr_b hb s
  have n32 : ¬ hr b s = 32 ∧ ¬ hr b s = 10 := by
    unfold hr
    by_cases z : s < b.1
    · have := hat z
      rw [if_pos z]; omega
    · rw [if_neg z]; omega
  have w3 : ∀ j, j ≠ 5 → j ≠ 7 → (am_u (am_ul (am_u t (.inl 0) 0 5 (iI s)) (.inl 0) 0 12 (0 : Int64)) (.inl 0) 0 7 (iI 0)).1 (.inl 0) 0 j = t.1 (.inl 0) 0 j := fun j h5 h7 => by
    rw [au_s, if_neg h7]
    show (am_u t (.inl 0) 0 5 (iI s)).1 (.inl 0) 0 j = _
    rw [au_s, if_neg h5]
  have w5 : (am_u (am_ul (am_u t (.inl 0) 0 5 (iI s)) (.inl 0) 0 12 (0 : Int64)) (.inl 0) 0 7 (iI 0)).1 (.inl 0) 0 5 = iI s := by
    rw [au_s, if_neg (by omega)]
    show (am_u t (.inl 0) 0 5 (iI s)).1 (.inl 0) 0 5 = _
    rw [au_s, if_pos rfl]
  have w7 : (am_u (am_ul (am_u t (.inl 0) 0 5 (iI s)) (.inl 0) 0 12 (0 : Int64)) (.inl 0) 0 7 (iI 0)).1 (.inl 0) 0 7 = iI 0 := by rw [au_s, if_pos rfl]
  have w1 : (am_u (am_ul (am_u t (.inl 0) 0 5 (iI s)) (.inl 0) 0 12 (0 : Int64)) (.inl 0) 0 7 (iI 0)).1 (.inl 0) 1 = t.1 (.inl 0) 1 := by
    rw [am_u_row (by simp)]
    show (am_u t (.inl 0) 0 5 (iI s)).1 (.inl 0) 1 = _
    rw [am_u_row (by simp)]
  have w12 : (am_u (am_ul (am_u t (.inl 0) 0 5 (iI s)) (.inl 0) 0 12 (0 : Int64)) (.inl 0) 0 7 (iI 0)).2.1 (.inl 0) 0 12 = lN 0 := by
    show (am_ul (am_u t (.inl 0) 0 5 (iI s)) (.inl 0) 0 12 (0 : Int64)).2.1 (.inl 0) 0 12 = _
    rw [am_ul_self, vpL, if_pos rfl]; rfl
  have eA : f_X12_goOn h = ((f_X12_here (iI 0) (am_u (am_ul (am_u t (.inl 0) 0 5 (iI s)) (.inl 0) 0 12 (0 : Int64)) (.inl 0) 0 7 (iI 0))).bind (fun a3 => if 0 ≤ a3 then ((f_X12_isLetter a3).bind (fun a4 => if a4 = 0 then ((f_X12_isDigit a3).bind (fun a5 => if a5 = 0 then (if a3 = (iI (59)) then (f_X12_goOn_229 a3 (iI (3)) (am_u (am_ul (am_u t (.inl 0) 0 5 (iI s)) (.inl 0) 0 12 (0 : Int64)) (.inl 0) 0 7 (iI 0))) else (if a3 = (iI (40)) then (f_X12_goOn_229 a3 (iI (3)) (am_u (am_ul (am_u t (.inl 0) 0 5 (iI s)) (.inl 0) 0 12 (0 : Int64)) (.inl 0) 0 7 (iI 0))) else (if a3 = (iI (41)) then (f_X12_goOn_229 a3 (iI (3)) (am_u (am_ul (am_u t (.inl 0) 0 5 (iI s)) (.inl 0) 0 12 (0 : Int64)) (.inl 0) 0 7 (iI 0))) else (f_X12_goOn_229 a3 (iI (4)) (am_u (am_ul (am_u t (.inl 0) 0 5 (iI s)) (.inl 0) 0 12 (0 : Int64)) (.inl 0) 0 7 (iI 0)))))) else (f_X12_goOn_146 (iI (0)) (am_u (am_ul (am_u t (.inl 0) 0 5 (iI s)) (.inl 0) 0 12 (0 : Int64)) (.inl 0) 0 7 (iI 0))))) else (f_X12_goOn_76 (iI (0)) (am_u (am_ul (am_u t (.inl 0) 0 5 (iI s)) (.inl 0) 0 12 (0 : Int64)) (.inl 0) 0 7 (iI 0))))) else (am_lt (am_u (am_u (am_ul (am_u t (.inl 0) 0 5 (iI s)) (.inl 0) 0 12 (0 : Int64)) (.inl 0) 0 7 (iI 0)) (.inl 0) 0 6 (iI (0))) (fun h4 => some (h4))))) := by
    unfold f_X12_goOn
    rw [e0, e_X12_goOn_0, e', Option.bind_some, if_neg (by rw [xI_eq (by omega) (by omega) (by omega) (by omega)]; exact n32.1), Option.bind_some, if_neg (by rw [xI_eq (by omega) (by omega) (by omega) (by omega)]; exact n32.2), t4]
    rfl
  rw [eA]
  generalize (am_u (am_ul (am_u t (.inl 0) 0 5 (iI s)) (.inl 0) 0 12 (0 : Int64)) (.inl 0) 0 7 (iI 0)) = h3 at *
  have R3 : mo_b h3 b := Rt.eq (w3 3 (by omega) (by omega)) w1
  have k4 : h3.1 (.inl 0) 0 4 = iI s := by rw [w3 4 (by omega) (by omega)]; exact t4
  have e3 : f_X12_here (iI 0) h3 = some (iI (hr b s)) := m_here hb R3 (p := s) (n := 0) k4 (by omega) (by omega)
  have kj : ∀ j, j < 4 ∨ 7 < j → h3.1 (.inl 0) 0 j = h.1 (.inl 0) 0 j := fun j hj => by rw [w3 j (by omega) (by omega), tj j (by omega)]
  rw [e3, Option.bind_some]
  unfold tkS
  by_cases c : b.1 ≤ s
  · have eh : hr b s = -1 := if_neg (by omega)
    have es : s = b.1 := by omega
    rw [if_pos c, eh, if_neg (by decide), am_lt]
    refine ⟨_, rfl, ⟨R3.eq (by rw [au_s, if_neg (by omega)]) (am_u_row (by simp)), ?_, ?_, ?_, fun z => (by cases z), fun z => (by cases z), fun z => (by cases z)⟩, fun j hj => by rw [au_s, if_neg (by omega)]; exact kj j hj⟩
    · rw [au_s, if_neg (by omega), k4, es]
    · rw [au_s, if_neg (by omega), w5]
    · rw [au_s, if_pos rfl]; rfl
  · have eh : hr b s = b.2 s := if_pos (by omega)
    have hb2 := hb.2 s
    have el := m_isLet (x := b.2 s) (by omega)
    have ed := m_isDig (x := b.2 s) (by omega)
    have z1 : ¬ (iI 1 : Int32) = 0 := by decide
    have z0 : (iI 0 : Int32) = 0 := by decide
    rw [if_neg c, eh, if_pos (by rw [xI_0, xI_le (by omega) (by omega) (by omega) (by omega)]; omega), el, Option.bind_some]
    by_cases c1 : 97 ≤ b.2 s ∧ b.2 s ≤ 122
    · rw [if_pos c1, show bI (97 ≤ b.2 s ∧ b.2 s ≤ 122) = 1 from if_pos c1, if_neg z1]
      obtain ⟨h', e9, q4, q6, q12, q1, qj⟩ := m_go76 hb R3 (by omega) c1 k4 w12
      refine ⟨h', e9, ⟨R3.eq (qj 3 (by omega) (by omega)) q1, q4, by rw [qj 5 (by omega) (by omega)]; exact w5, ?_, fun z => ?_, fun z => ?_, fun z => ?_⟩, fun j hj => by rw [qj j (by omega) (by omega)]; exact kj j hj⟩
      · rw [q6]
        show _ = iI ((if run b.2 97 122 b.1 s ≤ s + 8 then 1 else 4 : Nat) : Int)
        split <;> rfl
      · have z : (if run b.2 97 122 b.1 s ≤ s + 8 then 1 else 4) = 1 := z
        exact q12 (by split at z <;> omega)
      · have z : (if run b.2 97 122 b.1 s ≤ s + 8 then 1 else 4) = 2 := z
        split at z <;> omega
      · have z : (if run b.2 97 122 b.1 s ≤ s + 8 then 1 else 4) = 3 := z
        split at z <;> omega
    · rw [if_neg c1, show bI (97 ≤ b.2 s ∧ b.2 s ≤ 122) = 0 from if_neg c1, if_pos z0, ed, Option.bind_some]
      by_cases c2 : 48 ≤ b.2 s ∧ b.2 s ≤ 57
      · rw [if_pos c2, show bI (48 ≤ b.2 s ∧ b.2 s ≤ 57) = 1 from if_pos c2, if_neg z1]
        obtain ⟨h', e9, q4, q6, q7, q1, qj⟩ := m_go146 hb R3 (by omega) c2 k4 w7
        refine ⟨h', e9, ⟨R3.eq (qj 3 (by omega) (by omega) (by omega)) q1, q4, by rw [qj 5 (by omega) (by omega) (by omega)]; exact w5, ?_, fun z => ?_, fun z => ?_, fun z => ?_⟩, fun j hj => by rw [qj j (by omega) (by omega) (by omega)]; exact kj j hj⟩
        · rw [q6]
          show _ = iI ((if run b.2 48 57 b.1 s ≤ s + 3 then 2 else 4 : Nat) : Int)
          split <;> rfl
        · have z : (if run b.2 48 57 b.1 s ≤ s + 3 then 2 else 4) = 1 := z
          split at z <;> omega
        · have z : (if run b.2 48 57 b.1 s ≤ s + 3 then 2 else 4) = 2 := z
          exact q7 (by split at z <;> omega)
        · have z : (if run b.2 48 57 b.1 s ≤ s + 3 then 2 else 4) = 3 := z
          split at z <;> omega
      · rw [if_neg c2, show bI (48 ≤ b.2 s ∧ b.2 s ≤ 57) = 0 from if_neg c2, if_pos z0]
        have key : ∀ y : Nat, ∃ h', f_X12_goOn_229 (iI (b.2 s)) (iI y) h3 = some h' ∧ mo_b h' b ∧ h'.1 (.inl 0) 0 4 = iI ((s + 1 : Nat) : Int) ∧ h'.1 (.inl 0) 0 5 = iI s ∧ h'.1 (.inl 0) 0 6 = iI y ∧ h'.1 (.inl 0) 0 7 = iI (b.2 s) ∧ ∀ j, j < 4 ∨ 7 < j → h'.1 (.inl 0) 0 j = h3.1 (.inl 0) 0 j := fun y => by
          refine ⟨am_u (am_u (am_u h3 (.inl 0) 0 6 (iI y)) (.inl 0) 0 7 (iI (b.2 s))) (.inl 0) 0 4 (iI ((s : Int) + 1)), ?_, R3.eq (by rw [au_s, if_neg (by omega), au_s, if_neg (by omega), au_s, if_neg (by omega)]) (by rw [am_u_row (by simp), am_u_row (by simp), am_u_row (by simp)]), ?_, ?_, ?_, ?_, fun j hj => ?_⟩
          · rw [e_X12_goOn_229]
            simp (disch := omega) only [xI_le, xI_lt, xI_eq, xI_0, xI_ib, if_pos, if_neg, if_true, if_false, xI_cl, Int.toNat_natCast, iI_m, iI_a, iI_s, iI_1, xI_n, Option.bind_some, Int.natCast_add, Int.natCast_one, xI_zb, if_bI0, if_bI1, xI_rn, xI_ti, am_lt, au_s, k4]
          · rw [au_s, if_pos rfl]; rfl
          · rw [au_s, if_neg (by omega), au_s, if_neg (by omega), au_s, if_neg (by omega)]; exact w5
          · rw [au_s, if_neg (by omega), au_s, if_neg (by omega), au_s, if_pos rfl]
          · rw [au_s, if_neg (by omega), au_s, if_pos rfl]
          · rw [au_s, if_neg (by omega), au_s, if_neg (by omega), au_s, if_neg (by omega)]
        by_cases d : b.2 s = 59 ∨ b.2 s = 40 ∨ b.2 s = 41
        · obtain ⟨h', e9, Rb, q4, q5, q6, q7, qj⟩ := key 3
          refine ⟨h', ?_, ?_, fun j hj => (qj j hj).trans (kj j hj)⟩
          · have e9' : f_X12_goOn_229 (iI (b.2 s)) (iI 3) h3 = some h' := e9
            rw [e9']
            rcases d with d | d | d
            · rw [d]; exact if_pos rfl
            · rw [d]; exact (if_neg (by decide)).trans (if_pos rfl)
            · rw [d]; exact (if_neg (by decide)).trans ((if_neg (by decide)).trans (if_pos rfl))
          · rw [if_pos d]
            exact ⟨Rb, q4, q5, q6, fun z => (by cases z), fun z => (by cases z), fun _ => q7⟩
        · obtain ⟨h', e9, Rb, q4, q5, q6, q7, qj⟩ := key 4
          refine ⟨h', ?_, ?_, fun j hj => (qj j hj).trans (kj j hj)⟩
          · have e9' : f_X12_goOn_229 (iI (b.2 s)) (iI 4) h3 = some h' := e9
            rw [e9', if_neg (by rw [xI_eq (by omega) (by omega) (by omega) (by omega)]; omega), if_neg (by rw [xI_eq (by omega) (by omega) (by omega) (by omega)]; omega), if_neg (by rw [xI_eq (by omega) (by omega) (by omega) (by omega)]; omega)]
          · rw [if_neg d]
            exact ⟨Rb, q4, q5, q6, fun z => (by cases z), fun z => (by cases z), fun z => (by cases z)⟩
end MTK
