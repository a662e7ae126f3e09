/-! a plate copied -/
theorem nar_b {x : Int} (h : 0 ≤ x ∧ x ≤ 1) : vp_nar .boolean (iI x) = iI x := by
  have : x = 0 ∨ x = 1 := by omega
  rcases this with rfl | rfl <;> rfl
section COP
variable {h : am_H} {v : pv_T} {k k2 : Nat}
theorem rowk (hk : k ≠ k2) {s : am_H} {o i : Nat} {x : Int32} (o2 : Nat) : (am_u s (.inr k) o i x).1 (.inr k2) o2 = s.1 (.inr k2) o2 := am_u_row (fun z => hk (by cases z; rfl))
theorem k_copyCu (hk : k ≠ k2) (hv : pv_ok v) (R : cl_cu h k2 v) : ∃ h', f_X0_copyFrom k k2 h = some h' ∧ cl_cu h' k v := by
  have h8 : v.1 0 ≤ 8 := hv.1.1
  obtain ⟨s, e1, r1, r2, r3⟩ := ch_rel (fun i s => f_X0_copyFrom_10 k k2 (iI i) s) (fun i s => s.1 (.inr k) 1 4 = iI (v.1 0) ∧ (∀ j, j < i → s.1 (.inr k) 2 j = iI (v.2 1 j) ∧ s.1 (.inr k) 3 j = iI (v.2 2 j) ∧ s.1 (.inr k) 4 j = iI (v.2 4 j) ∧ s.1 (.inr k) 5 j = iI (v.2 3 j)) ∧ cl_cu s k2 v) (n := v.1 0) (fun i s hi hs => by
    obtain ⟨p1, p2, p3⟩ := hs
    obtain ⟨q1, q2, q3, q4⟩ := p3.2 i hi
    have hb := hv.2.1 i hi
    refine ⟨am_u (am_u (am_u (am_u s (.inr k) 2 i (iI (v.2 1 i))) (.inr k) 3 i (iI (v.2 2 i))) (.inr k) 4 i (iI (v.2 4 i))) (.inr k) 5 i (iI (v.2 3 i)), ?_, ?_, fun j hj => ?_, p3.eq (fun o => by rw [rowk hk, rowk hk, rowk hk, rowk hk])⟩
    · show f_X0_copyFrom_10 _ _ _ _ = f_X0_copyFrom_10 _ _ _ _
      rw [e_X0_copyFrom_10]
      unfold f_X0_copyArc
      simp (disch := omega) only [xI_le, xI_lt, xI_eq, xI_0, xI_ib, if_pos, if_neg, if_true, if_false, xI_cl, Int.toNat_natCast, iI_m, iI_a, iI_s, iI_1, xI_n, Option.bind_some, Int.natCast_add, Int.natCast_one, xI_zb, if_bI0, if_bI1, xI_rn, xI_ti, p1, am_lt, rowk hk, q1, q2, q3, q4, nar_b]
    · rw [am_u_row (by simp), am_u_row (by simp), am_u_row (by simp), am_u_row (by simp)]; exact p1
    · refine ⟨?_, ?_, ?_, ?_⟩
      · rw [am_u_row (by simp), am_u_row (by simp), am_u_row (by simp), au_s]
        by_cases c : j = i
        · rw [if_pos c, c]
        · rw [if_neg c]; exact (p2 j (by omega)).1
      · rw [am_u_row (by simp), am_u_row (by simp), au_s, am_u_row (by simp)]
        by_cases c : j = i
        · rw [if_pos c, c]
        · rw [if_neg c]; exact (p2 j (by omega)).2.1
      · rw [am_u_row (by simp), au_s, am_u_row (by simp), am_u_row (by simp)]
        by_cases c : j = i
        · rw [if_pos c, c]
        · rw [if_neg c]; exact (p2 j (by omega)).2.2.1
      · rw [au_s, am_u_row (by simp), am_u_row (by simp), am_u_row (by simp)]
        by_cases c : j = i
        · rw [if_pos c, c]
        · rw [if_neg c]; exact (p2 j (by omega)).2.2.2) (s0 := am_u h (.inr k) 1 4 (iI (v.1 0))) ⟨by rw [au_s, if_pos rfl], fun j hj => absurd hj (Nat.not_lt_zero j), R.eq (fun o => rowk hk o)⟩
  refine ⟨s, ?_, r1, r2⟩
  unfold f_X0_copyFrom
  rw [R.1]
  refine Eq.trans e1 ?_
  show f_X0_copyFrom_10 _ _ _ _ = _
  rw [e_X0_copyFrom_10]
  simp (disch := omega) only [xI_le, xI_lt, xI_eq, xI_0, xI_ib, if_pos, if_neg, if_true, if_false, xI_cl, Int.toNat_natCast, iI_m, iI_a, iI_s, iI_1, xI_n, Option.bind_some, Int.natCast_add, Int.natCast_one, xI_zb, if_bI0, if_bI1, xI_rn, xI_ti, r1]
theorem k_copyNa (hk : k ≠ k2) (hv : pv_ok v) (R : cl_na h k2 v) : ∃ h', f_X4_copyFrom k k2 h = some h' ∧ cl_na h' k v := by
  have h8 : v.1 1 ≤ 20 := hv.1.2.1
  obtain ⟨s, e1, r1, r2, r3⟩ := ch_rel (fun i s => f_X4_copyFrom_10 k k2 (iI i) s) (fun i s => s.1 (.inr k) 6 4 = iI (v.1 1) ∧ (∀ j, j < i → s.1 (.inr k) 7 j = iI (v.2 5 j) ∧ s.1 (.inr k) 8 j = iI (v.2 6 j) ∧ s.1 (.inr k) 9 j = iI (v.2 7 j)) ∧ cl_na s k2 v) (n := v.1 1) (fun i s hi hs => by
    obtain ⟨p1, p2, p3⟩ := hs
    obtain ⟨q1, q2, q3⟩ := p3.2.1 i hi
    have hb := hv.2.2.1 i hi
    refine ⟨am_u (am_u (am_u s (.inr k) 7 i (iI (v.2 5 i))) (.inr k) 8 i (iI (v.2 6 i))) (.inr k) 9 i (iI (v.2 7 i)), ?_, ?_, fun j hj => ?_, p3.eq (fun o => by rw [rowk hk, rowk hk, rowk hk])⟩
    · show f_X4_copyFrom_10 _ _ _ _ = f_X4_copyFrom_10 _ _ _ _
      rw [e_X4_copyFrom_10]
      simp (disch := omega) only [xI_le, xI_lt, xI_eq, xI_0, xI_ib, if_pos, if_neg, if_true, if_false, xI_cl, Int.toNat_natCast, iI_m, iI_a, iI_s, iI_1, xI_n, Option.bind_some, Int.natCast_add, Int.natCast_one, xI_zb, if_bI0, if_bI1, xI_rn, xI_ti, p1, am_lt, rowk hk, q1, q2, q3, nar_b]
    · rw [am_u_row (by simp), am_u_row (by simp), am_u_row (by simp)]; exact p1
    · refine ⟨?_, ?_, ?_⟩
      · rw [am_u_row (by simp), am_u_row (by simp), au_s]
        by_cases c : j = i
        · rw [if_pos c, c]
        · rw [if_neg c]; exact (p2 j (by omega)).1
      · rw [am_u_row (by simp), au_s, am_u_row (by simp)]
        by_cases c : j = i
        · rw [if_pos c, c]
        · rw [if_neg c]; exact (p2 j (by omega)).2.1
      · rw [au_s, am_u_row (by simp), am_u_row (by simp)]
        by_cases c : j = i
        · rw [if_pos c, c]
        · rw [if_neg c]; exact (p2 j (by omega)).2.2) (s0 := am_u h (.inr k) 6 4 (iI (v.1 1))) ⟨by rw [au_s, if_pos rfl], fun j hj => absurd hj (Nat.not_lt_zero j), R.eq (fun o => rowk hk o)⟩
  obtain ⟨s', e2, u1, u2, u3⟩ := ch_rel (fun i s => f_X4_copyFrom_62 k k2 (iI i) s) (fun i s' => (∀ o, o ≠ 10 → s'.1 (.inr k) o = s.1 (.inr k) o) ∧ (∀ j, j < i → s'.1 (.inr k) 10 j = iI (v.2 8 j)) ∧ cl_na s' k2 v) (n := 26) (fun i s hi hs => by
    obtain ⟨p1, p2, p3⟩ := hs
    refine ⟨am_u s (.inr k) 10 i (iI (v.2 8 i)), ?_, fun o ho => by rw [am_u_row (by simp; exact ho)]; exact p1 o ho, fun j hj => ?_, p3.eq (fun o => by rw [rowk hk])⟩
    · show f_X4_copyFrom_62 _ _ _ _ = f_X4_copyFrom_62 _ _ _ _
      rw [e_X4_copyFrom_62]
      simp (disch := omega) only [xI_le, xI_lt, xI_eq, xI_0, xI_ib, if_pos, if_neg, if_true, if_false, xI_cl, Int.toNat_natCast, iI_m, iI_a, iI_s, iI_1, xI_n, Option.bind_some, Int.natCast_add, Int.natCast_one, xI_zb, if_bI0, if_bI1, xI_rn, xI_ti, p1, am_lt, p3.2.2 i hi]
    · rw [au_s]
      by_cases c : j = i
      · rw [if_pos c, c]
      · rw [if_neg c]; exact p2 j (by omega)) (s0 := s) ⟨fun o _ => rfl, fun j hj => absurd hj (Nat.not_lt_zero j), r3⟩
  refine ⟨s', ?_, ?_, ?_, u2⟩
  · unfold f_X4_copyFrom
    rw [R.1]
    refine Eq.trans e1 ?_
    show f_X4_copyFrom_10 _ _ _ _ = _
    rw [e_X4_copyFrom_10]
    simp (disch := omega) only [xI_le, xI_lt, xI_eq, xI_0, xI_ib, if_pos, if_neg, if_true, if_false, xI_cl, Int.toNat_natCast, iI_m, iI_a, iI_s, iI_1, xI_n, Option.bind_some, Int.natCast_add, Int.natCast_one, xI_zb, if_bI0, if_bI1, xI_rn, xI_ti, r1]
    refine Eq.trans e2 ?_
    show f_X4_copyFrom_62 _ _ _ _ = _
    rw [e_X4_copyFrom_62]
    exact if_pos (by decide)
  · rw [u1 6 (by omega)]; exact r1
  · rw [u1 7 (by omega), u1 8 (by omega), u1 9 (by omega)]; exact r2
theorem k_copyKi (hk : k ≠ k2) (hv : pv_ok v) (R : cl_ki h k2 v) : ∃ h', f_X2_copyFrom k k2 h = some h' ∧ cl_ki h' k v := by
  have h8 : v.1 2 ≤ 6 := hv.1.2.2.1
  obtain ⟨s, e1, r1, r2, r3⟩ := ch_rel (fun i s => f_X2_copyFrom_10 k k2 (iI i) s) (fun i s => s.1 (.inr k) 11 4 = iI (v.1 2) ∧ (∀ j, j < i → s.1 (.inr k) 13 j = iI (v.2 9 j) ∧ s.1 (.inr k) 14 j = iI (v.2 10 j) ∧ s.1 (.inr k) 15 j = iI (v.2 11 j)) ∧ cl_ki s k2 v) (n := v.1 2) (fun i s hi hs => by
    obtain ⟨p1, p2, p3⟩ := hs
    obtain ⟨q1, q2, q3⟩ := p3.2.1 i hi
    refine ⟨am_u (am_u (am_u s (.inr k) 13 i (iI (v.2 9 i))) (.inr k) 14 i (iI (v.2 10 i))) (.inr k) 15 i (iI (v.2 11 i)), ?_, ?_, fun j hj => ?_, p3.eq (fun o => by rw [rowk hk, rowk hk, rowk hk])⟩
    · show f_X2_copyFrom_10 _ _ _ _ = f_X2_copyFrom_10 _ _ _ _
      rw [e_X2_copyFrom_10]
      simp (disch := omega) only [xI_le, xI_lt, xI_eq, xI_0, xI_ib, if_pos, if_neg, if_true, if_false, xI_cl, Int.toNat_natCast, iI_m, iI_a, iI_s, iI_1, xI_n, Option.bind_some, Int.natCast_add, Int.natCast_one, xI_zb, if_bI0, if_bI1, xI_rn, xI_ti, p1, am_lt, rowk hk, q1, q2, q3]
    · rw [am_u_row (by simp), am_u_row (by simp), am_u_row (by simp)]; exact p1
    · refine ⟨?_, ?_, ?_⟩
      · rw [am_u_row (by simp), am_u_row (by simp), au_s]
        by_cases c : j = i
        · rw [if_pos c, c]
        · rw [if_neg c]; exact (p2 j (by omega)).1
      · rw [am_u_row (by simp), au_s, am_u_row (by simp)]
        by_cases c : j = i
        · rw [if_pos c, c]
        · rw [if_neg c]; exact (p2 j (by omega)).2.1
      · rw [au_s, am_u_row (by simp), am_u_row (by simp)]
        by_cases c : j = i
        · rw [if_pos c, c]
        · rw [if_neg c]; exact (p2 j (by omega)).2.2) (s0 := am_u h (.inr k) 11 4 (iI (v.1 2))) ⟨by rw [au_s, if_pos rfl], fun j hj => absurd hj (Nat.not_lt_zero j), R.eq (fun o => rowk hk o)⟩
  obtain ⟨s', e2, u1, u2, u3⟩ := ch_rel (fun i s => f_X2_copyFrom_62 k k2 (iI i) s) (fun i s' => (∀ o, o ≠ 12 → s'.1 (.inr k) o = s.1 (.inr k) o) ∧ (∀ j, j < i → s'.1 (.inr k) 12 j = iI (v.2 14 j)) ∧ cl_ki s' k2 v) (n := 8 * v.1 2) (fun i s' hi hs => by
    obtain ⟨p1, p2, p3⟩ := hs
    refine ⟨am_u s' (.inr k) 12 i (iI (v.2 14 i)), ?_, fun o ho => by rw [am_u_row (by simp; exact ho)]; exact p1 o ho, fun j hj => ?_, p3.eq (fun o => by rw [rowk hk])⟩
    · show f_X2_copyFrom_62 _ _ _ _ = f_X2_copyFrom_62 _ _ _ _
      rw [e_X2_copyFrom_62]
      simp (disch := omega) only [xI_le, xI_lt, xI_eq, xI_0, xI_ib, if_pos, if_neg, if_true, if_false, xI_cl, Int.toNat_natCast, iI_m, iI_a, iI_s, iI_1, xI_n, Option.bind_some, Int.natCast_add, Int.natCast_one, xI_zb, if_bI0, if_bI1, xI_rn, xI_ti, p1 11 (by omega), r1, am_lt, p3.2.2 i hi]
    · rw [au_s]
      by_cases c : j = i
      · rw [if_pos c, c]
      · rw [if_neg c]; exact p2 j (by omega)) (s0 := s) ⟨fun o _ => rfl, fun j hj => absurd hj (Nat.not_lt_zero j), r3⟩
  refine ⟨s', ?_, ?_, ?_, u2⟩
  · unfold f_X2_copyFrom
    rw [R.1]
    refine Eq.trans e1 ?_
    show f_X2_copyFrom_10 _ _ _ _ = _
    rw [e_X2_copyFrom_10]
    simp (disch := omega) only [xI_le, xI_lt, xI_eq, xI_0, xI_ib, if_pos, if_neg, if_true, if_false, xI_cl, Int.toNat_natCast, iI_m, iI_a, iI_s, iI_1, xI_n, Option.bind_some, Int.natCast_add, Int.natCast_one, xI_zb, if_bI0, if_bI1, xI_rn, xI_ti, r1]
    refine Eq.trans e2 ?_
    show f_X2_copyFrom_62 _ _ _ _ = _
    rw [e_X2_copyFrom_62]
    simp (disch := omega) only [xI_le, xI_lt, xI_eq, xI_0, xI_ib, if_pos, if_neg, if_true, if_false, xI_cl, Int.toNat_natCast, iI_m, iI_a, iI_s, iI_1, xI_n, Option.bind_some, Int.natCast_add, Int.natCast_one, xI_zb, if_bI0, if_bI1, xI_rn, xI_ti, u1 11 (by omega), r1]
  · rw [u1 11 (by omega)]; exact r1
  · rw [u1 13 (by omega), u1 14 (by omega), u1 15 (by omega)]; exact r2
theorem k_copySc (hk : k ≠ k2) (hv : pv_ok v) (R : cl_sc h k2 v) : ∃ h', f_X7_copyFrom k k2 h = some h' ∧ cl_sc h' k v := by
  have h8 : v.1 3 ≤ 44 := hv.1.2.2.2
  obtain ⟨s, e1, r1, r2, r3⟩ := ch_rel (fun i s => f_X7_copyFrom_10 k k2 (iI i) s) (fun i s => s.1 (.inr k) 17 2 = iI (v.1 3) ∧ (∀ j, j < i → s.1 (.inr k) 18 j = iI (v.2 12 j) ∧ s.1 (.inr k) 19 j = iI (v.2 13 j)) ∧ cl_sc s k2 v) (n := v.1 3) (fun i s hi hs => by
    obtain ⟨p1, p2, p3⟩ := hs
    obtain ⟨q1, q2⟩ := p3.2 i hi
    refine ⟨am_u (am_u s (.inr k) 18 i (iI (v.2 12 i))) (.inr k) 19 i (iI (v.2 13 i)), ?_, ?_, fun j hj => ?_, p3.eq (fun o => by rw [rowk hk, rowk hk])⟩
    · show f_X7_copyFrom_10 _ _ _ _ = f_X7_copyFrom_10 _ _ _ _
      rw [e_X7_copyFrom_10]
      simp (disch := omega) only [xI_le, xI_lt, xI_eq, xI_0, xI_ib, if_pos, if_neg, if_true, if_false, xI_cl, Int.toNat_natCast, iI_m, iI_a, iI_s, iI_1, xI_n, Option.bind_some, Int.natCast_add, Int.natCast_one, xI_zb, if_bI0, if_bI1, xI_rn, xI_ti, p1, am_lt, rowk hk, q1, q2]
    · rw [am_u_row (by simp), am_u_row (by simp)]; exact p1
    · refine ⟨?_, ?_⟩
      · rw [am_u_row (by simp), au_s]
        by_cases c : j = i
        · rw [if_pos c, c]
        · rw [if_neg c]; exact (p2 j (by omega)).1
      · rw [au_s, am_u_row (by simp)]
        by_cases c : j = i
        · rw [if_pos c, c]
        · rw [if_neg c]; exact (p2 j (by omega)).2) (s0 := am_u h (.inr k) 17 2 (iI (v.1 3))) ⟨by rw [au_s, if_pos rfl], fun j hj => absurd hj (Nat.not_lt_zero j), R.eq (fun o => rowk hk o)⟩
  refine ⟨s, ?_, r1, r2⟩
  unfold f_X7_copyFrom
  rw [R.1]
  refine Eq.trans e1 ?_
  show f_X7_copyFrom_10 _ _ _ _ = _
  rw [e_X7_copyFrom_10]
  simp (disch := omega) only [xI_le, xI_lt, xI_eq, xI_0, xI_ib, if_pos, if_neg, if_true, if_false, xI_cl, Int.toNat_natCast, iI_m, iI_a, iI_s, iI_1, xI_n, Option.bind_some, Int.natCast_add, Int.natCast_one, xI_zb, if_bI0, if_bI1, xI_rn, xI_ti, r1]
theorem k_copyPl (hk : k ≠ k2) (hv : pv_ok v) (R : cl_pl h k2 v) : ∃ h', f_X5_copyFrom k k2 h = some h' ∧ cl_pl h' k v := by
  have hkk : ∀ {o : Nat} {L : List Nat}, (.inr k2, o) ∉ L.map (fun i => ((.inr k : am_G), i)) := fun {o L} z => by
    obtain ⟨i, -, e⟩ := List.mem_map.mp z
    cases e; exact hk rfl
  have fr : ∀ {a b : am_H} (L : List Nat), Wr (L.map (fun i => ((.inr k : am_G), i))) a b → ∀ o, b.1 (.inr k2) o = a.1 (.inr k2) o := fun L w o => w.1 _ _ hkk
  have fk : ∀ {a b : am_H} (L : List Nat), Wr (L.map (fun i => ((.inr k : am_G), i))) a b → ∀ o, o ∉ L → b.1 (.inr k) o = a.1 (.inr k) o := fun L w o ho => w.1 _ _ (fun z => by
    obtain ⟨i, hi, e⟩ := List.mem_map.mp z
    cases e; exact ho hi)
  obtain ⟨h1, e1, r1⟩ := k_copyCu hk hv R.1
  have w1 := wr_X0_copyFrom e1
  have R1 : cl_pl h1 k2 v := R.eq (fr [2, 3, 4, 5, 1] w1)
  obtain ⟨h2, e2, r2⟩ := k_copyNa hk hv R1.2.1
  have w2 := wr_X4_copyFrom e2
  have R2 : cl_pl h2 k2 v := R1.eq (fr [7, 8, 9, 10, 6] w2)
  obtain ⟨h3, e3, r3⟩ := k_copyKi hk hv R2.2.2.1
  have w3 := wr_X2_copyFrom e3
  have R3 : cl_pl h3 k2 v := R2.eq (fr [13, 14, 15, 12, 11] w3)
  obtain ⟨g0, g1, g2, g3⟩ := R3.2.2.2.1
  have e4 : f_X1_copyFrom (.inr k) 16 (.inr k2) 16 h3 = some (am_u (am_u (am_u (am_u h3 (.inr k) 16 0 (iI (v.2 0 0))) (.inr k) 16 1 (iI (v.2 0 2))) (.inr k) 16 2 (iI (v.2 0 3))) (.inr k) 16 3 (iI (v.2 0 4))) := by
    unfold f_X1_copyFrom
    simp only [am_lt, rowk hk, g0, g1, g2, g3]
  generalize eh4 : (am_u (am_u (am_u (am_u h3 (.inr k) 16 0 (iI (v.2 0 0))) (.inr k) 16 1 (iI (v.2 0 2))) (.inr k) 16 2 (iI (v.2 0 3))) (.inr k) 16 3 (iI (v.2 0 4))) = h4 at e4
  have w4 := wr_X1_copyFrom e4
  have R4 : cl_pl h4 k2 v := R3.eq (fr [16] w4)
  have r4 : cl_gr h4 (.inr k) 16 v := by
    subst eh4
    refine ⟨?_, ?_, ?_, ?_⟩ <;> simp only [au_s] <;> rfl
  obtain ⟨h5, e5, r5⟩ := k_copySc hk hv R4.2.2.2.2.1
  have w5 := wr_X7_copyFrom e5
  have R5 : cl_pl h5 k2 v := R4.eq (fr [18, 19, 17] w5)
  refine ⟨am_u h5 (.inr k) 0 5 (iI (v.2 0 1)), ?_, ?_⟩
  · unfold f_X5_copyFrom
    rw [e1, Option.bind_some, e2, Option.bind_some, e3, Option.bind_some, e4, Option.bind_some, e5, Option.bind_some, R5.2.2.2.2.2]
    rfl
  · have f1 := fk [2, 3, 4, 5, 1] w1
    have f2 := fk [7, 8, 9, 10, 6] w2
    have f3 := fk [13, 14, 15, 12, 11] w3
    have f4 := fk [16] w4
    have f5 := fk [18, 19, 17] w5
    have f6 : ∀ o, o ≠ 0 → (am_u h5 (.inr k) 0 5 (iI (v.2 0 1))).1 (.inr k) o = h5.1 (.inr k) o := fun o ho => am_u_row (by simp; exact ho)
    unfold cl_pl cl_cu cl_na cl_ki cl_gr cl_sc at *
    refine ⟨?_, ?_, ?_, ?_, ?_, by rw [au_s, if_pos rfl]⟩
    · rw [f6 1 (by omega), f6 2 (by omega), f6 3 (by omega), f6 4 (by omega), f6 5 (by omega), f5 1 (by simp), f5 2 (by simp), f5 3 (by simp), f5 4 (by simp), f5 5 (by simp), f4 1 (by simp), f4 2 (by simp), f4 3 (by simp), f4 4 (by simp), f4 5 (by simp), f3 1 (by simp), f3 2 (by simp), f3 3 (by simp), f3 4 (by simp), f3 5 (by simp), f2 1 (by simp), f2 2 (by simp), f2 3 (by simp), f2 4 (by simp), f2 5 (by simp)]
      exact r1
    · rw [f6 6 (by omega), f6 7 (by omega), f6 8 (by omega), f6 9 (by omega), f6 10 (by omega), f5 6 (by simp), f5 7 (by simp), f5 8 (by simp), f5 9 (by simp), f5 10 (by simp), f4 6 (by simp), f4 7 (by simp), f4 8 (by simp), f4 9 (by simp), f4 10 (by simp), f3 6 (by simp), f3 7 (by simp), f3 8 (by simp), f3 9 (by simp), f3 10 (by simp)]
      exact r2
    · rw [f6 11 (by omega), f6 12 (by omega), f6 13 (by omega), f6 14 (by omega), f6 15 (by omega), f5 11 (by simp), f5 12 (by simp), f5 13 (by simp), f5 14 (by simp), f5 15 (by simp), f4 11 (by simp), f4 12 (by simp), f4 13 (by simp), f4 14 (by simp), f4 15 (by simp)]
      exact r3
    · rw [f6 16 (by omega), f5 16 (by simp)]
      exact r4
    · rw [f6 17 (by omega), f6 18 (by omega), f6 19 (by omega)]
      exact r5
end COP
