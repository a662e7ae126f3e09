theorem wr_X0_copyArc {k : Nat} {k2 : Nat} {x2 : Int32} {x3 : Int32} {h : am_H} {a : am_H} (e : f_X0_copyArc k k2 x2 x3 h = some a) : Wr [((.inr k), 2), ((.inr k), 3), ((.inr k), 4), ((.inr k), 5)] h (a) := by
  have H : wp (f_X0_copyArc k k2 x2 x3 h) (fun r => r = a) := ⟨a, e, rfl⟩
  unfold f_X0_copyArc at H
  obtain ⟨b1, H⟩ := wp_g H
  obtain ⟨b2, H⟩ := wp_g H
  replace H := wp_l H
  generalize e_h1 : am_u h (.inr k) 2 x3.toNatClampNeg (h.1 (.inr k2) 2 x2.toNatClampNeg) = h1 at H
  refine Wr.u1 (List.mem_of_getElem? (i := 0) rfl) e_h1 ?_
  obtain ⟨b3, H⟩ := wp_g H
  obtain ⟨b4, H⟩ := wp_g H
  replace H := wp_l H
  generalize e_h2 : am_u h1 (.inr k) 3 x3.toNatClampNeg (h1.1 (.inr k2) 3 x2.toNatClampNeg) = h2 at H
  refine Wr.u1 (List.mem_of_getElem? (i := 1) rfl) e_h2 ?_
  obtain ⟨b5, H⟩ := wp_g H
  obtain ⟨b6, H⟩ := wp_g H
  replace H := wp_l H
  generalize e_h3 : am_u h2 (.inr k) 4 x3.toNatClampNeg (h2.1 (.inr k2) 4 x2.toNatClampNeg) = h3 at H
  refine Wr.u1 (List.mem_of_getElem? (i := 2) rfl) e_h3 ?_
  obtain ⟨b7, H⟩ := wp_g H
  obtain ⟨b8, H⟩ := wp_g H
  replace H := wp_l H
  generalize e_h4 : am_u h3 (.inr k) 5 x3.toNatClampNeg (vp_nar .boolean (h3.1 (.inr k2) 5 x2.toNatClampNeg)) = h4 at H
  refine Wr.u1 (List.mem_of_getElem? (i := 3) rfl) e_h4 ?_
  cases (wp_s H)
  exact Wr.rf
theorem wr_X0_copyFrom_L {k : Nat} {k2 : Nat} {a : am_H} : ∀ s, wp (lp (s_X0_copyFrom k k2) s) (fun r => r = a) → ((∀ x2 h, s = (10, [x2], [], [], h) → Wr [((.inr k), 2), ((.inr k), 3), ((.inr k), 4), ((.inr k), 5), ((.inr k), 1)] h (a))) := by
  refine lp_ind _ _ (fun s H => fun x2 h e => ?_)
  · subst e
    rw [s_X0_copyFrom] at H
    rcases Decidable.em ((h.1 (.inr k) 1 4) ≤ x2) with c1 | c1
    · replace H := wp_t c1 H
      cases (lp_re H)
      exact Wr.rf
    · replace H := wp_f c1 H
      obtain ⟨a1, e1, H⟩ := wp_b H
      refine ((wr_X0_copyArc e1).mono (List.forall_mem_cons.mpr ⟨(List.mem_of_getElem? (i := 0) rfl), (List.forall_mem_cons.mpr ⟨(List.mem_of_getElem? (i := 1) rfl), (List.forall_mem_cons.mpr ⟨(List.mem_of_getElem? (i := 2) rfl), (List.forall_mem_cons.mpr ⟨(List.mem_of_getElem? (i := 3) rfl), (fun _ z => nomatch z)⟩)⟩)⟩)⟩)).tr ?_
      exact (lp_in H) _ _ rfl
theorem wr_X0_copyFrom {k : Nat} {k2 : Nat} {h : am_H} {a : am_H} (e : f_X0_copyFrom k k2 h = some a) : Wr [((.inr k), 2), ((.inr k), 3), ((.inr k), 4), ((.inr k), 5), ((.inr k), 1)] h (a) := by
  have H : wp (f_X0_copyFrom k k2 h) (fun r => r = a) := ⟨a, e, rfl⟩
  unfold f_X0_copyFrom at H
  replace H := wp_l H
  generalize e_h1 : am_u h (.inr k) 1 4 (h.1 (.inr k2) 1 4) = h1 at H
  refine Wr.u1 (List.mem_of_getElem? (i := 4) rfl) e_h1 ?_
  exact (wr_X0_copyFrom_L _ H) _ _ rfl
theorem wr_X0_addArc {k : Nat} {x1 : Int32} {x2 : Int32} {x3 : Int32} {x4 : Int32} {h : am_H} {a : am_H} (e : f_X0_addArc k x1 x2 x3 x4 h = some a) : Wr [((.inr k), 2), ((.inr k), 3), ((.inr k), 5), ((.inr k), 4), ((.inr k), 1)] h (a) := by
  have H : wp (f_X0_addArc k x1 x2 x3 x4 h) (fun r => r = a) := ⟨a, e, rfl⟩
  unfold f_X0_addArc at H
  rcases Decidable.em ((iI (8)) ≤ (h.1 (.inr k) 1 4)) with c1 | c1
  · replace H := wp_t c1 H
    cases (wp_s H)
    exact Wr.rf
  · replace H := wp_f c1 H
    obtain ⟨b1, H⟩ := wp_g H
    replace H := wp_l H
    generalize e_h1 : am_u h (.inr k) 2 (((h.1 (.inr k) 1 4)).toNatClampNeg) x1 = h1 at H
    refine Wr.u1 (List.mem_of_getElem? (i := 0) rfl) e_h1 ?_
    obtain ⟨b2, H⟩ := wp_g H
    replace H := wp_l H
    generalize e_h2 : am_u h1 (.inr k) 3 (((h1.1 (.inr k) 1 4)).toNatClampNeg) x2 = h2 at H
    refine Wr.u1 (List.mem_of_getElem? (i := 1) rfl) e_h2 ?_
    obtain ⟨b3, H⟩ := wp_g H
    replace H := wp_l H
    generalize e_h3 : am_u h2 (.inr k) 5 (((h2.1 (.inr k) 1 4)).toNatClampNeg) (vp_nar .boolean x3) = h3 at H
    refine Wr.u1 (List.mem_of_getElem? (i := 2) rfl) e_h3 ?_
    obtain ⟨b4, H⟩ := wp_g H
    replace H := wp_l H
    generalize e_h4 : am_u h3 (.inr k) 4 (((h3.1 (.inr k) 1 4)).toNatClampNeg) x4 = h4 at H
    refine Wr.u1 (List.mem_of_getElem? (i := 3) rfl) e_h4 ?_
    replace H := wp_l H
    generalize e_h5 : am_u h4 (.inr k) 1 4 ((h4.1 (.inr k) 1 4) + (iI (1))) = h5 at H
    refine Wr.u1 (List.mem_of_getElem? (i := 4) rfl) e_h5 ?_
    cases (wp_s H)
    exact Wr.rf
theorem wr_X1_clear {g : am_G} {o : Nat} {h : am_H} {a : am_H} (e : f_X1_clear g o h = some a) : Wr [(g, o)] h (a) := by
  have H : wp (f_X1_clear g o h) (fun r => r = a) := ⟨a, e, rfl⟩
  unfold f_X1_clear at H
  replace H := wp_l H
  generalize e_h1 : am_u h g o 0 (iI (50)) = h1 at H
  refine Wr.u1 (List.mem_of_getElem? (i := 0) rfl) e_h1 ?_
  replace H := wp_l H
  generalize e_h2 : am_u h1 g o 1 (iI (1)) = h2 at H
  refine Wr.u1 (List.mem_of_getElem? (i := 0) rfl) e_h2 ?_
  replace H := wp_l H
  generalize e_h3 : am_u h2 g o 2 (iI (0)) = h3 at H
  refine Wr.u1 (List.mem_of_getElem? (i := 0) rfl) e_h3 ?_
  replace H := wp_l H
  generalize e_h4 : am_u h3 g o 3 (iI (0)) = h4 at H
  refine Wr.u1 (List.mem_of_getElem? (i := 0) rfl) e_h4 ?_
  cases (wp_s H)
  exact Wr.rf
theorem wr_X1_copyFrom {g : am_G} {o : Nat} {g2 : am_G} {o2 : Nat} {h : am_H} {a : am_H} (e : f_X1_copyFrom g o g2 o2 h = some a) : Wr [(g, o)] h (a) := by
  have H : wp (f_X1_copyFrom g o g2 o2 h) (fun r => r = a) := ⟨a, e, rfl⟩
  unfold f_X1_copyFrom at H
  replace H := wp_l H
  generalize e_h1 : am_u h g o 0 (h.1 g2 o2 0) = h1 at H
  refine Wr.u1 (List.mem_of_getElem? (i := 0) rfl) e_h1 ?_
  replace H := wp_l H
  generalize e_h2 : am_u h1 g o 1 (h1.1 g2 o2 1) = h2 at H
  refine Wr.u1 (List.mem_of_getElem? (i := 0) rfl) e_h2 ?_
  replace H := wp_l H
  generalize e_h3 : am_u h2 g o 2 (h2.1 g2 o2 2) = h3 at H
  refine Wr.u1 (List.mem_of_getElem? (i := 0) rfl) e_h3 ?_
  replace H := wp_l H
  generalize e_h4 : am_u h3 g o 3 (h3.1 g2 o2 3) = h4 at H
  refine Wr.u1 (List.mem_of_getElem? (i := 0) rfl) e_h4 ?_
  cases (wp_s H)
  exact Wr.rf
theorem wr_X1_sharpenBy {g : am_G} {o : Nat} {x1 : Int32} {h : am_H} {a : Int32 × am_H} (e : f_X1_sharpenBy g o x1 h = some a) : Wr [(g, o)] h (a.2) := by
  have H : wp (f_X1_sharpenBy g o x1 h) (fun r => r = a) := ⟨a, e, rfl⟩
  unfold f_X1_sharpenBy at H
  obtain ⟨a1, e1, H⟩ := wp_b H
  replace H := wp_l H
  generalize e_h1 : am_u h g o 0 a1 = h1 at H
  refine Wr.u1 (List.mem_of_getElem? (i := 0) rfl) e_h1 ?_
  cases (wp_s H)
  exact Wr.rf
theorem wr_X1_nextBits {g : am_G} {o : Nat} {h : am_H} {a : Int32 × am_H} (e : f_X1_nextBits g o h = some a) : Wr [(g, o)] h (a.2) := by
  have H : wp (f_X1_nextBits g o h) (fun r => r = a) := ⟨a, e, rfl⟩
  unfold f_X1_nextBits at H
  replace H := wp_l H
  generalize e_h1 : am_u h g o 1 (((h.1 g o 1) * (1103515245 : Int32)) + (iI (12345))) = h1 at H
  refine Wr.u1 (List.mem_of_getElem? (i := 0) rfl) e_h1 ?_
  cases (wp_s H)
  exact Wr.rf
theorem wr_X1_reachOfStroke_51 {g : am_G} {o : Nat} {x2 : Int32} {h : am_H} {a : Int32 × am_H} (H : wp (f_X1_reachOfStroke_51 g o x2 h) (fun r => r = a)) : Wr [(g, o)] h (a.2) := by
  unfold f_X1_reachOfStroke_51 at H
  obtain ⟨a1, e1, H⟩ := wp_b H
  replace H := wp_l H
  generalize e_h1 : am_u h g o 0 a1 = h1 at H
  refine Wr.u1 (List.mem_of_getElem? (i := 0) rfl) e_h1 ?_
  replace H := wp_l H
  generalize e_h2 : am_u h1 g o 3 ((h1.1 g o 3) + (iI (1))) = h2 at H
  refine Wr.u1 (List.mem_of_getElem? (i := 0) rfl) e_h2 ?_
  cases (wp_s H)
  exact Wr.rf
theorem wr_X1_reachOfStroke {g : am_G} {o : Nat} {x1 : Int32} {h : am_H} {a : Int32 × am_H} (e : f_X1_reachOfStroke g o x1 h = some a) : Wr [(g, o)] h (a.2) := by
  have H : wp (f_X1_reachOfStroke g o x1 h) (fun r => r = a) := ⟨a, e, rfl⟩
  unfold f_X1_reachOfStroke at H
  rcases Decidable.em (x1 ≤ (h.1 g o 0)) with c1 | c1
  · replace H := wp_t c1 H
    exact wr_X1_reachOfStroke_51 H
  · replace H := wp_f c1 H
    obtain ⟨a1, e1, H⟩ := wp_b H
    refine ((wr_X1_nextBits e1).mono (List.forall_mem_cons.mpr ⟨(List.mem_of_getElem? (i := 0) rfl), (fun _ z => nomatch z)⟩)).tr ?_
    obtain ⟨b1, H⟩ := wp_d H
    rcases Decidable.em (((iI (2)) * (x1 - (a1.2.1 g o 0))) ≤ (a1.1 - a1.1 / (iI (100)) * (iI (100)))) with c2 | c2
    · replace H := wp_t c2 H
      exact wr_X1_reachOfStroke_51 H
    · replace H := wp_f c2 H
      obtain ⟨a2, e2, H⟩ := wp_b H
      refine ((wr_X1_nextBits e2).mono (List.forall_mem_cons.mpr ⟨(List.mem_of_getElem? (i := 0) rfl), (fun _ z => nomatch z)⟩)).tr ?_
      obtain ⟨b2, H⟩ := wp_d H
      replace H := wp_l H
      generalize e_h1 : am_u a2.2 g o 2 ((a2.2.1 g o 2) + (iI (1))) = h1 at H
      refine Wr.u1 (List.mem_of_getElem? (i := 0) rfl) e_h1 ?_
      exact wr_X1_reachOfStroke_51 H
theorem wr_X2_copyFrom_L {k : Nat} {k2 : Nat} {a : am_H} : ∀ s, wp (lp (s_X2_copyFrom k k2) s) (fun r => r = a) → ((∀ x2 h, s = (10, [x2], [], [], h) → Wr [((.inr k), 13), ((.inr k), 14), ((.inr k), 15), ((.inr k), 12), ((.inr k), 11)] h (a)) ∧ (∀ x2 h, s = (62, [x2], [], [], h) → Wr [((.inr k), 13), ((.inr k), 14), ((.inr k), 15), ((.inr k), 12), ((.inr k), 11)] h (a))) := by
  refine lp_ind _ _ (fun s H => ⟨fun x2 h e => ?_, fun x2 h e => ?_⟩)
  · subst e
    rw [s_X2_copyFrom] at H
    rcases Decidable.em ((h.1 (.inr k) 11 4) ≤ x2) with c1 | c1
    · replace H := wp_t c1 H
      exact (lp_in H).2 _ _ rfl
    · replace H := wp_f c1 H
      obtain ⟨b1, H⟩ := wp_g H
      obtain ⟨b2, H⟩ := wp_g H
      replace H := wp_l H
      generalize e_h1 : am_u h (.inr k) 13 x2.toNatClampNeg (h.1 (.inr k2) 13 x2.toNatClampNeg) = h1 at H
      refine Wr.u1 (List.mem_of_getElem? (i := 0) rfl) e_h1 ?_
      obtain ⟨b3, H⟩ := wp_g H
      obtain ⟨b4, H⟩ := wp_g H
      replace H := wp_l H
      generalize e_h2 : am_u h1 (.inr k) 14 x2.toNatClampNeg (h1.1 (.inr k2) 14 x2.toNatClampNeg) = h2 at H
      refine Wr.u1 (List.mem_of_getElem? (i := 1) rfl) e_h2 ?_
      obtain ⟨b5, H⟩ := wp_g H
      obtain ⟨b6, H⟩ := wp_g H
      replace H := wp_l H
      generalize e_h3 : am_u h2 (.inr k) 15 x2.toNatClampNeg (h2.1 (.inr k2) 15 x2.toNatClampNeg) = h3 at H
      refine Wr.u1 (List.mem_of_getElem? (i := 2) rfl) e_h3 ?_
      exact (lp_in H).1 _ _ rfl
  · subst e
    rw [s_X2_copyFrom] at H
    rcases Decidable.em (((h.1 (.inr k) 11 4) * (iI (8))) ≤ x2) with c1 | c1
    · replace H := wp_t c1 H
      cases (lp_re H)
      exact Wr.rf
    · replace H := wp_f c1 H
      obtain ⟨b1, H⟩ := wp_g H
      obtain ⟨b2, H⟩ := wp_g H
      replace H := wp_l H
      generalize e_h1 : am_u h (.inr k) 12 x2.toNatClampNeg (h.1 (.inr k2) 12 x2.toNatClampNeg) = h1 at H
      refine Wr.u1 (List.mem_of_getElem? (i := 3) rfl) e_h1 ?_
      exact (lp_in H).2 _ _ rfl
theorem wr_X2_copyFrom {k : Nat} {k2 : Nat} {h : am_H} {a : am_H} (e : f_X2_copyFrom k k2 h = some a) : Wr [((.inr k), 13), ((.inr k), 14), ((.inr k), 15), ((.inr k), 12), ((.inr k), 11)] h (a) := by
  have H : wp (f_X2_copyFrom k k2 h) (fun r => r = a) := ⟨a, e, rfl⟩
  unfold f_X2_copyFrom at H
  replace H := wp_l H
  generalize e_h1 : am_u h (.inr k) 11 4 (h.1 (.inr k2) 11 4) = h1 at H
  refine Wr.u1 (List.mem_of_getElem? (i := 4) rfl) e_h1 ?_
  exact (wr_X2_copyFrom_L _ H).1 _ _ rfl
theorem wr_X2_beginKind_L {k : Nat} {a : am_H} : ∀ s, wp (lp (s_X2_beginKind k) s) (fun r => r = a) → ((∀ x2 h, s = (2, [x2], [], [], h) → Wr [((.inr k), 12)] h (a))) := by
  refine lp_ind _ _ (fun s H => fun x2 h e => ?_)
  · subst e
    rw [s_X2_beginKind] at H
    rcases Decidable.em ((iI (8)) ≤ x2) with c1 | c1
    · replace H := wp_t c1 H
      cases (lp_re H)
      exact Wr.rf
    · replace H := wp_f c1 H
      rcases Decidable.em ((iI (6)) ≤ (h.1 (.inr k) 11 4)) with c2 | c2
      · replace H := wp_t c2 H
        cases (lp_re H)
        exact Wr.rf
      · replace H := wp_f c2 H
        rcases Decidable.em ((h.1 (.inl 1) 8 4) ≤ ((h.1 (.inl 1) 8 3) + x2)) with c3 | c3
        · replace H := wp_t c3 H
          obtain ⟨b1, H⟩ := wp_g H
          replace H := wp_l H
          generalize e_h1 : am_u h (.inr k) 12 (((((h.1 (.inr k) 11 4) * (iI (8))) + x2)).toNatClampNeg) (iI (0)) = h1 at H
          refine Wr.u1 (List.mem_of_getElem? (i := 0) rfl) e_h1 ?_
          exact (lp_in H) _ _ rfl
        · replace H := wp_f c3 H
          obtain ⟨a1, e1, H⟩ := wp_b H
          obtain ⟨b1, H⟩ := wp_g H
          replace H := wp_l H
          generalize e_h1 : am_u h (.inr k) 12 (((((h.1 (.inr k) 11 4) * (iI (8))) + x2)).toNatClampNeg) a1 = h1 at H
          refine Wr.u1 (List.mem_of_getElem? (i := 0) rfl) e_h1 ?_
          exact (lp_in H) _ _ rfl
theorem wr_X2_beginKind {k : Nat} {h : am_H} {a : am_H} (e : f_X2_beginKind k h = some a) : Wr [((.inr k), 12)] h (a) := by
  have H : wp (f_X2_beginKind k h) (fun r => r = a) := ⟨a, e, rfl⟩
  unfold f_X2_beginKind at H
  exact (wr_X2_beginKind_L _ H) _ _ rfl
theorem wr_X2_endKind {k : Nat} {x1 : Int32} {x2 : Int32} {x3 : Int32} {h : am_H} {a : am_H} (e : f_X2_endKind k x1 x2 x3 h = some a) : Wr [((.inr k), 13), ((.inr k), 14), ((.inr k), 15), ((.inr k), 11)] h (a) := by
  have H : wp (f_X2_endKind k x1 x2 x3 h) (fun r => r = a) := ⟨a, e, rfl⟩
  unfold f_X2_endKind at H
  rcases Decidable.em ((iI (6)) ≤ (h.1 (.inr k) 11 4)) with c1 | c1
  · replace H := wp_t c1 H
    cases (wp_s H)
    exact Wr.rf
  · replace H := wp_f c1 H
    obtain ⟨b1, H⟩ := wp_g H
    replace H := wp_l H
    generalize e_h1 : am_u h (.inr k) 13 (((h.1 (.inr k) 11 4)).toNatClampNeg) x1 = h1 at H
    refine Wr.u1 (List.mem_of_getElem? (i := 0) rfl) e_h1 ?_
    obtain ⟨b2, H⟩ := wp_g H
    replace H := wp_l H
    generalize e_h2 : am_u h1 (.inr k) 14 (((h1.1 (.inr k) 11 4)).toNatClampNeg) x2 = h2 at H
    refine Wr.u1 (List.mem_of_getElem? (i := 1) rfl) e_h2 ?_
    obtain ⟨b3, H⟩ := wp_g H
    replace H := wp_l H
    generalize e_h3 : am_u h2 (.inr k) 15 (((h2.1 (.inr k) 11 4)).toNatClampNeg) x3 = h3 at H
    refine Wr.u1 (List.mem_of_getElem? (i := 2) rfl) e_h3 ?_
    replace H := wp_l H
    generalize e_h4 : am_u h3 (.inr k) 11 4 ((h3.1 (.inr k) 11 4) + (iI (1))) = h4 at H
    refine Wr.u1 (List.mem_of_getElem? (i := 3) rfl) e_h4 ?_
    cases (wp_s H)
    exact Wr.rf
theorem wr_X3_measure_L {k : Nat} {a : am_H} : ∀ s, wp (lp (s_X3_measure k) s) (fun r => r = a) → ((∀ x2 x3 x4 h, s = (13, [x2, x3, x4], [], [], h) → Wr [((.inl 1), 4), ((.inl 1), 3)] h (a))) := by
  refine lp_ind _ _ (fun s H => fun x2 x3 x4 h e => ?_)
  · subst e
    rw [s_X3_measure] at H
    rcases Decidable.em (x2 ≤ x4) with c1 | c1
    · replace H := wp_t c1 H
      obtain ⟨a1, e1, H⟩ := wp_b H
      obtain ⟨b1, H⟩ := wp_g H
      replace H := wp_l H
      generalize e_h1 : am_u h (.inl 1) 4 x2.toNatClampNeg (a1 - x3) = h1 at H
      refine Wr.u1 (List.mem_of_getElem? (i := 0) rfl) e_h1 ?_
      replace H := wp_l H
      generalize e_h2 : am_u h1 (.inl 1) 3 4 (x2 + (iI (1))) = h2 at H
      refine Wr.u1 (List.mem_of_getElem? (i := 1) rfl) e_h2 ?_
      cases (lp_re H)
      exact Wr.rf
    · replace H := wp_f c1 H
      obtain ⟨a1, e1, H⟩ := wp_b H
      obtain ⟨a2, e2, H⟩ := wp_b H
      obtain ⟨b1, H⟩ := wp_d H
      obtain ⟨b2, H⟩ := wp_g H
      replace H := wp_l H
      generalize e_h1 : am_u h (.inl 1) 4 x4.toNatClampNeg ((a1 - (a2 / (iI (2)))) - x3) = h1 at H
      refine Wr.u1 (List.mem_of_getElem? (i := 0) rfl) e_h1 ?_
      exact (lp_in H) _ _ _ _ rfl
theorem wr_X3_measure {k : Nat} {h : am_H} {a : am_H} (e : f_X3_measure k h = some a) : Wr [((.inl 1), 4), ((.inl 1), 3)] h (a) := by
  have H : wp (f_X3_measure k h) (fun r => r = a) := ⟨a, e, rfl⟩
  unfold f_X3_measure at H
  exact (wr_X3_measure_L _ H) _ _ _ _ rfl
theorem wr_X3_fillLargest {k : Nat} {h : am_H} {a : am_H} (e : f_X3_fillLargest k h = some a) : Wr [((.inl 1), 6), ((.inl 1), 5), ((.inl 1), 7)] h (a) := by
  have H : wp (f_X3_fillLargest k h) (fun r => r = a) := ⟨a, e, rfl⟩
  unfold f_X3_fillLargest at H
  obtain ⟨a1, e1, H⟩ := wp_b H
  rcases Decidable.em (a1 = (iI (-1))) with c1 | c1
  · replace H := wp_t c1 H
    cases (wp_s H)
    exact Wr.rf
  · replace H := wp_f c1 H
    obtain ⟨b1, H⟩ := wp_g H
    replace H := wp_l H
    generalize e_h1 : am_u h (.inl 1) 6 a1.toNatClampNeg (vp_nar .boolean (iI (1))) = h1 at H
    refine Wr.u1 (List.mem_of_getElem? (i := 0) rfl) e_h1 ?_
    obtain ⟨b2, H⟩ := wp_g H
    obtain ⟨a2, e2, H⟩ := wp_b H
    obtain ⟨b3, H⟩ := wp_g H
    replace H := wp_l H
    generalize e_h2 : am_u h1 (.inl 1) 5 a1.toNatClampNeg a2 = h2 at H
    refine Wr.u1 (List.mem_of_getElem? (i := 1) rfl) e_h2 ?_
    rcases Decidable.em (a2 = (iI (-1))) with c2 | c2
    · replace H := wp_t c2 H
      cases (wp_s H)
      exact Wr.rf
    · replace H := wp_f c2 H
      obtain ⟨b4, H⟩ := wp_g H
      obtain ⟨b5, H⟩ := wp_g H
      replace H := wp_l H
      generalize e_h3 : am_u h2 (.inl 1) 7 a2.toNatClampNeg ((h2.1 (.inl 1) 7 a2.toNatClampNeg) - (iI (1))) = h3 at H
      refine Wr.u1 (List.mem_of_getElem? (i := 2) rfl) e_h3 ?_
      cases (wp_s H)
      exact Wr.rf
theorem wr_X3_fill_L {k : Nat} {a : am_H} : ∀ s, wp (lp (s_X3_fill k) s) (fun r => r = a) → ((∀ x2 h, s = (7, [x2], [], [], h) → Wr [((.inl 1), 7), ((.inl 1), 5), ((.inl 1), 6), ((.inl 1), 4), ((.inl 1), 3)] h (a)) ∧ (∀ x2 h, s = (41, [x2], [], [], h) → Wr [((.inl 1), 7), ((.inl 1), 5), ((.inl 1), 6), ((.inl 1), 4), ((.inl 1), 3)] h (a)) ∧ (∀ x2 h, s = (71, [x2], [], [], h) → Wr [((.inl 1), 7), ((.inl 1), 5), ((.inl 1), 6), ((.inl 1), 4), ((.inl 1), 3)] h (a))) := by
  refine lp_ind _ _ (fun s H => ⟨fun x2 h e => ?_, fun x2 h e => ?_, fun x2 h e => ?_⟩)
  · subst e
    rw [s_X3_fill] at H
    rcases Decidable.em ((h.1 (.inr k) 11 4) ≤ x2) with c1 | c1
    · replace H := wp_t c1 H
      exact (lp_in H).2.1 _ _ rfl
    · replace H := wp_f c1 H
      obtain ⟨b1, H⟩ := wp_g H
      obtain ⟨b2, H⟩ := wp_g H
      replace H := wp_l H
      generalize e_h1 : am_u h (.inl 1) 7 x2.toNatClampNeg (h.1 (.inr k) 15 x2.toNatClampNeg) = h1 at H
      refine Wr.u1 (List.mem_of_getElem? (i := 0) rfl) e_h1 ?_
      exact (lp_in H).1 _ _ rfl
  · subst e
    rw [s_X3_fill] at H
    rcases Decidable.em ((h.1 (.inl 1) 3 4) ≤ x2) with c1 | c1
    · replace H := wp_t c1 H
      exact (lp_in H).2.2 _ _ rfl
    · replace H := wp_f c1 H
      obtain ⟨b1, H⟩ := wp_g H
      replace H := wp_l H
      generalize e_h1 : am_u h (.inl 1) 5 x2.toNatClampNeg (iI (-1)) = h1 at H
      refine Wr.u1 (List.mem_of_getElem? (i := 1) rfl) e_h1 ?_
      obtain ⟨b2, H⟩ := wp_g H
      replace H := wp_l H
      generalize e_h2 : am_u h1 (.inl 1) 6 x2.toNatClampNeg (vp_nar .boolean (iI (0))) = h2 at H
      refine Wr.u1 (List.mem_of_getElem? (i := 2) rfl) e_h2 ?_
      exact (lp_in H).2.1 _ _ rfl
  · subst e
    rw [s_X3_fill] at H
    rcases Decidable.em ((h.1 (.inl 1) 3 4) ≤ x2) with c1 | c1
    · replace H := wp_t c1 H
      cases (lp_re H)
      exact Wr.rf
    · replace H := wp_f c1 H
      obtain ⟨a1, e1, H⟩ := wp_b H
      refine ((wr_X3_fillLargest e1).mono (List.forall_mem_cons.mpr ⟨(List.mem_of_getElem? (i := 2) rfl), (List.forall_mem_cons.mpr ⟨(List.mem_of_getElem? (i := 1) rfl), (List.forall_mem_cons.mpr ⟨(List.mem_of_getElem? (i := 0) rfl), (fun _ z => nomatch z)⟩)⟩)⟩)).tr ?_
      exact (lp_in H).2.2 _ _ rfl
theorem wr_X3_fill {k : Nat} {h : am_H} {a : am_H} (e : f_X3_fill k h = some a) : Wr [((.inl 1), 7), ((.inl 1), 5), ((.inl 1), 6), ((.inl 1), 4), ((.inl 1), 3)] h (a) := by
  have H : wp (f_X3_fill k h) (fun r => r = a) := ⟨a, e, rfl⟩
  unfold f_X3_fill at H
  obtain ⟨a1, e1, H⟩ := wp_b H
  refine ((wr_X3_measure e1).mono (List.forall_mem_cons.mpr ⟨(List.mem_of_getElem? (i := 3) rfl), (List.forall_mem_cons.mpr ⟨(List.mem_of_getElem? (i := 4) rfl), (fun _ z => nomatch z)⟩)⟩)).tr ?_
  exact (wr_X3_fill_L _ H).1 _ _ rfl
theorem wr_X4_clear_L {k : Nat} {a : am_H} : ∀ s, wp (lp (s_X4_clear k) s) (fun r => r = a) → ((∀ x1 h, s = (7, [x1], [], [], h) → Wr [((.inr k), 10), ((.inr k), 6)] h (a))) := by
  refine lp_ind _ _ (fun s H => fun x1 h e => ?_)
  · subst e
    rw [s_X4_clear] at H
    rcases Decidable.em ((iI (26)) ≤ x1) with c1 | c1
    · replace H := wp_t c1 H
      cases (lp_re H)
      exact Wr.rf
    · replace H := wp_f c1 H
      obtain ⟨b1, H⟩ := wp_g H
      replace H := wp_l H
      generalize e_h1 : am_u h (.inr k) 10 x1.toNatClampNeg (iI (4)) = h1 at H
      refine Wr.u1 (List.mem_of_getElem? (i := 0) rfl) e_h1 ?_
      exact (lp_in H) _ _ rfl
theorem wr_X4_clear {k : Nat} {h : am_H} {a : am_H} (e : f_X4_clear k h = some a) : Wr [((.inr k), 10), ((.inr k), 6)] h (a) := by
  have H : wp (f_X4_clear k h) (fun r => r = a) := ⟨a, e, rfl⟩
  unfold f_X4_clear at H
  replace H := wp_l H
  generalize e_h1 : am_u h (.inr k) 6 4 (iI (0)) = h1 at H
  refine Wr.u1 (List.mem_of_getElem? (i := 1) rfl) e_h1 ?_
  exact (wr_X4_clear_L _ H) _ _ rfl
theorem wr_X4_copyFrom_L {k : Nat} {k2 : Nat} {a : am_H} : ∀ s, wp (lp (s_X4_copyFrom k k2) s) (fun r => r = a) → ((∀ x2 h, s = (10, [x2], [], [], h) → Wr [((.inr k), 7), ((.inr k), 8), ((.inr k), 9), ((.inr k), 10), ((.inr k), 6)] h (a)) ∧ (∀ x2 h, s = (62, [x2], [], [], h) → Wr [((.inr k), 7), ((.inr k), 8), ((.inr k), 9), ((.inr k), 10), ((.inr k), 6)] h (a))) := by
  refine lp_ind _ _ (fun s H => ⟨fun x2 h e => ?_, fun x2 h e => ?_⟩)
  · subst e
    rw [s_X4_copyFrom] at H
    rcases Decidable.em ((h.1 (.inr k) 6 4) ≤ x2) with c1 | c1
    · replace H := wp_t c1 H
      exact (lp_in H).2 _ _ rfl
    · replace H := wp_f c1 H
      obtain ⟨b1, H⟩ := wp_g H
      obtain ⟨b2, H⟩ := wp_g H
      replace H := wp_l H
      generalize e_h1 : am_u h (.inr k) 7 x2.toNatClampNeg (h.1 (.inr k2) 7 x2.toNatClampNeg) = h1 at H
      refine Wr.u1 (List.mem_of_getElem? (i := 0) rfl) e_h1 ?_
      obtain ⟨b3, H⟩ := wp_g H
      obtain ⟨b4, H⟩ := wp_g H
      replace H := wp_l H
      generalize e_h2 : am_u h1 (.inr k) 8 x2.toNatClampNeg (vp_nar .boolean (h1.1 (.inr k2) 8 x2.toNatClampNeg)) = h2 at H
      refine Wr.u1 (List.mem_of_getElem? (i := 1) rfl) e_h2 ?_
      obtain ⟨b5, H⟩ := wp_g H
      obtain ⟨b6, H⟩ := wp_g H
      replace H := wp_l H
      generalize e_h3 : am_u h2 (.inr k) 9 x2.toNatClampNeg (h2.1 (.inr k2) 9 x2.toNatClampNeg) = h3 at H
      refine Wr.u1 (List.mem_of_getElem? (i := 2) rfl) e_h3 ?_
      exact (lp_in H).1 _ _ rfl
  · subst e
    rw [s_X4_copyFrom] at H
    rcases Decidable.em ((iI (26)) ≤ x2) with c1 | c1
    · replace H := wp_t c1 H
      cases (lp_re H)
      exact Wr.rf
    · replace H := wp_f c1 H
      obtain ⟨b1, H⟩ := wp_g H
      obtain ⟨b2, H⟩ := wp_g H
      replace H := wp_l H
      generalize e_h1 : am_u h (.inr k) 10 x2.toNatClampNeg (h.1 (.inr k2) 10 x2.toNatClampNeg) = h1 at H
      refine Wr.u1 (List.mem_of_getElem? (i := 3) rfl) e_h1 ?_
      exact (lp_in H).2 _ _ rfl
theorem wr_X4_copyFrom {k : Nat} {k2 : Nat} {h : am_H} {a : am_H} (e : f_X4_copyFrom k k2 h = some a) : Wr [((.inr k), 7), ((.inr k), 8), ((.inr k), 9), ((.inr k), 10), ((.inr k), 6)] h (a) := by
  have H : wp (f_X4_copyFrom k k2 h) (fun r => r = a) := ⟨a, e, rfl⟩
  unfold f_X4_copyFrom at H
  replace H := wp_l H
  generalize e_h1 : am_u h (.inr k) 6 4 (h.1 (.inr k2) 6 4) = h1 at H
  refine Wr.u1 (List.mem_of_getElem? (i := 4) rfl) e_h1 ?_
  exact (wr_X4_copyFrom_L _ H).1 _ _ rfl
theorem wr_X4_addWord_L {k : Nat} {a : am_H} : ∀ s, wp (lp (s_X4_addWord k) s) (fun r => r = a) → ((∀ x3 x4 h, s = (3, [x3, x4], [], [], h) → Wr [((.inr k), 7), ((.inr k), 8), ((.inr k), 9), ((.inr k), 6)] h (a))) := by
  refine lp_ind _ _ (fun s H => fun x3 x4 h e => ?_)
  · subst e
    rw [s_X4_addWord] at H
    rcases Decidable.em (x3 ≤ x4) with c1 | c1
    · replace H := wp_t c1 H
      cases (lp_re H)
      exact Wr.rf
    · replace H := wp_f c1 H
      obtain ⟨a1, e1, H⟩ := wp_b H
      rcases Decidable.em ((iI (20)) ≤ (h.1 (.inr k) 6 4)) with c2 | c2
      · replace H := wp_t c2 H
        exact (lp_in H) _ _ _ rfl
      · replace H := wp_f c2 H
        obtain ⟨a2, e2, H⟩ := wp_b H
        rcases Decidable.em (a2 = 0) with c3 | c3
        · replace H := wp_t c3 H
          exact (lp_in H) _ _ _ rfl
        · replace H := wp_f c3 H
          obtain ⟨b1, H⟩ := wp_g H
          replace H := wp_l H
          generalize e_h1 : am_u h (.inr k) 7 (((h.1 (.inr k) 6 4)).toNatClampNeg) a1 = h1 at H
          refine Wr.u1 (List.mem_of_getElem? (i := 0) rfl) e_h1 ?_
          obtain ⟨b2, H⟩ := wp_g H
          replace H := wp_l H
          generalize e_h2 : am_u h1 (.inr k) 8 (((h1.1 (.inr k) 6 4)).toNatClampNeg) (vp_nar .boolean (iI (0))) = h2 at H
          refine Wr.u1 (List.mem_of_getElem? (i := 1) rfl) e_h2 ?_
          obtain ⟨b3, H⟩ := wp_g H
          replace H := wp_l H
          generalize e_h3 : am_u h2 (.inr k) 9 (((h2.1 (.inr k) 6 4)).toNatClampNeg) (iI (0)) = h3 at H
          refine Wr.u1 (List.mem_of_getElem? (i := 2) rfl) e_h3 ?_
          replace H := wp_l H
          generalize e_h4 : am_u h3 (.inr k) 6 4 ((h3.1 (.inr k) 6 4) + (iI (1))) = h4 at H
          refine Wr.u1 (List.mem_of_getElem? (i := 3) rfl) e_h4 ?_
          exact (lp_in H) _ _ _ rfl
theorem wr_X4_addWord {k : Nat} {x2 : Int32} {x3 : Int32} {h : am_H} {a : am_H} (e : f_X4_addWord k x2 x3 h = some a) : Wr [((.inr k), 7), ((.inr k), 8), ((.inr k), 9), ((.inr k), 6)] h (a) := by
  have H : wp (f_X4_addWord k x2 x3 h) (fun r => r = a) := ⟨a, e, rfl⟩
  unfold f_X4_addWord at H
  exact (wr_X4_addWord_L _ H) _ _ _ rfl
theorem wr_X4_widenWord_L {k : Nat} {a : am_H} : ∀ s, wp (lp (s_X4_widenWord k) s) (fun r => r = a) → ((∀ x3 x4 x5 h, s = (3, [x3, x4, x5], [], [], h) → Wr [((.inr k), 10)] h (a))) := by
  refine lp_ind _ _ (fun s H => fun x3 x4 x5 h e => ?_)
  · subst e
    rw [s_X4_widenWord] at H
    rcases Decidable.em (x3 ≤ x5) with c1 | c1
    · replace H := wp_t c1 H
      cases (lp_re H)
      exact Wr.rf
    · replace H := wp_f c1 H
      obtain ⟨a1, e1, H⟩ := wp_b H
      obtain ⟨a2, e2, H⟩ := wp_b H
      rcases Decidable.em (a2 = 0) with c2 | c2
      · replace H := wp_t c2 H
        exact (lp_in H) _ _ _ _ rfl
      · replace H := wp_f c2 H
        obtain ⟨b1, H⟩ := wp_g H
        replace H := wp_l H
        generalize e_h1 : am_u h (.inr k) 10 a1.toNatClampNeg x4 = h1 at H
        refine Wr.u1 (List.mem_of_getElem? (i := 0) rfl) e_h1 ?_
        exact (lp_in H) _ _ _ _ rfl
theorem wr_X4_widenWord {k : Nat} {x2 : Int32} {x3 : Int32} {x4 : Int32} {h : am_H} {a : am_H} (e : f_X4_widenWord k x2 x3 x4 h = some a) : Wr [((.inr k), 10)] h (a) := by
  have H : wp (f_X4_widenWord k x2 x3 x4 h) (fun r => r = a) := ⟨a, e, rfl⟩
  unfold f_X4_widenWord at H
  exact (wr_X4_widenWord_L _ H) _ _ _ _ rfl
theorem wr_X5_clear {k : Nat} {h : am_H} {a : am_H} (e : f_X5_clear k h = some a) : Wr [((.inr k), 1), ((.inr k), 10), ((.inr k), 6), ((.inr k), 11), ((.inr k), 16), ((.inr k), 17), ((.inr k), 0)] h (a) := by
  have H : wp (f_X5_clear k h) (fun r => r = a) := ⟨a, e, rfl⟩
  unfold f_X5_clear at H
  replace H := wp_l H
  generalize e_h1 : am_u h (.inr k) 1 4 (iI (0)) = h1 at H
  refine Wr.u1 (List.mem_of_getElem? (i := 0) rfl) e_h1 ?_
  obtain ⟨a1, e1, H⟩ := wp_b H
  refine ((wr_X4_clear e1).mono (List.forall_mem_cons.mpr ⟨(List.mem_of_getElem? (i := 1) rfl), (List.forall_mem_cons.mpr ⟨(List.mem_of_getElem? (i := 2) rfl), (fun _ z => nomatch z)⟩)⟩)).tr ?_
  replace H := wp_l H
  generalize e_h2 : am_u a1 (.inr k) 11 4 (iI (0)) = h2 at H
  refine Wr.u1 (List.mem_of_getElem? (i := 3) rfl) e_h2 ?_
  obtain ⟨a2, e2, H⟩ := wp_b H
  refine ((wr_X1_clear e2).mono (List.forall_mem_cons.mpr ⟨(List.mem_of_getElem? (i := 4) rfl), (fun _ z => nomatch z)⟩)).tr ?_
  replace H := wp_l H
  generalize e_h3 : am_u a2 (.inr k) 17 2 (iI (0)) = h3 at H
  refine Wr.u1 (List.mem_of_getElem? (i := 5) rfl) e_h3 ?_
  replace H := wp_l H
  generalize e_h4 : am_u h3 (.inr k) 0 5 (iI (1)) = h4 at H
  refine Wr.u1 (List.mem_of_getElem? (i := 6) rfl) e_h4 ?_
  cases (wp_s H)
  exact Wr.rf
theorem wr_X7_copyFrom_L {k : Nat} {k2 : Nat} {a : am_H} : ∀ s, wp (lp (s_X7_copyFrom k k2) s) (fun r => r = a) → ((∀ x2 h, s = (10, [x2], [], [], h) → Wr [((.inr k), 18), ((.inr k), 19), ((.inr k), 17)] h (a))) := by
  refine lp_ind _ _ (fun s H => fun x2 h e => ?_)
  · subst e
    rw [s_X7_copyFrom] at H
    rcases Decidable.em ((h.1 (.inr k) 17 2) ≤ x2) with c1 | c1
    · replace H := wp_t c1 H
      cases (lp_re H)
      exact Wr.rf
    · replace H := wp_f c1 H
      obtain ⟨b1, H⟩ := wp_g H
      obtain ⟨b2, H⟩ := wp_g H
      replace H := wp_l H
      generalize e_h1 : am_u h (.inr k) 18 x2.toNatClampNeg (h.1 (.inr k2) 18 x2.toNatClampNeg) = h1 at H
      refine Wr.u1 (List.mem_of_getElem? (i := 0) rfl) e_h1 ?_
      obtain ⟨b3, H⟩ := wp_g H
      obtain ⟨b4, H⟩ := wp_g H
      replace H := wp_l H
      generalize e_h2 : am_u h1 (.inr k) 19 x2.toNatClampNeg (h1.1 (.inr k2) 19 x2.toNatClampNeg) = h2 at H
      refine Wr.u1 (List.mem_of_getElem? (i := 1) rfl) e_h2 ?_
      exact (lp_in H) _ _ rfl
theorem wr_X7_copyFrom {k : Nat} {k2 : Nat} {h : am_H} {a : am_H} (e : f_X7_copyFrom k k2 h = some a) : Wr [((.inr k), 18), ((.inr k), 19), ((.inr k), 17)] h (a) := by
  have H : wp (f_X7_copyFrom k k2 h) (fun r => r = a) := ⟨a, e, rfl⟩
  unfold f_X7_copyFrom at H
  replace H := wp_l H
  generalize e_h1 : am_u h (.inr k) 17 2 (h.1 (.inr k2) 17 2) = h1 at H
  refine Wr.u1 (List.mem_of_getElem? (i := 2) rfl) e_h1 ?_
  exact (wr_X7_copyFrom_L _ H) _ _ rfl
theorem wr_X5_copyFrom {k : Nat} {k2 : Nat} {h : am_H} {a : am_H} (e : f_X5_copyFrom k k2 h = some a) : Wr [((.inr k), 2), ((.inr k), 3), ((.inr k), 4), ((.inr k), 5), ((.inr k), 1), ((.inr k), 7), ((.inr k), 8), ((.inr k), 9), ((.inr k), 10), ((.inr k), 6), ((.inr k), 13), ((.inr k), 14), ((.inr k), 15), ((.inr k), 12), ((.inr k), 11), ((.inr k), 16), ((.inr k), 18), ((.inr k), 19), ((.inr k), 17), ((.inr k), 0)] h (a) := by
  have H : wp (f_X5_copyFrom k k2 h) (fun r => r = a) := ⟨a, e, rfl⟩
  unfold f_X5_copyFrom at H
  obtain ⟨a1, e1, H⟩ := wp_b H
  refine ((wr_X0_copyFrom e1).mono (List.forall_mem_cons.mpr ⟨(List.mem_of_getElem? (i := 0) rfl), (List.forall_mem_cons.mpr ⟨(List.mem_of_getElem? (i := 1) rfl), (List.forall_mem_cons.mpr ⟨(List.mem_of_getElem? (i := 2) rfl), (List.forall_mem_cons.mpr ⟨(List.mem_of_getElem? (i := 3) rfl), (List.forall_mem_cons.mpr ⟨(List.mem_of_getElem? (i := 4) rfl), (fun _ z => nomatch z)⟩)⟩)⟩)⟩)⟩)).tr ?_
  obtain ⟨a2, e2, H⟩ := wp_b H
  refine ((wr_X4_copyFrom e2).mono (List.forall_mem_cons.mpr ⟨(List.mem_of_getElem? (i := 5) rfl), (List.forall_mem_cons.mpr ⟨(List.mem_of_getElem? (i := 6) rfl), (List.forall_mem_cons.mpr ⟨(List.mem_of_getElem? (i := 7) rfl), (List.forall_mem_cons.mpr ⟨(List.mem_of_getElem? (i := 8) rfl), (List.forall_mem_cons.mpr ⟨(List.mem_of_getElem? (i := 9) rfl), (fun _ z => nomatch z)⟩)⟩)⟩)⟩)⟩)).tr ?_
  obtain ⟨a3, e3, H⟩ := wp_b H
  refine ((wr_X2_copyFrom e3).mono (List.forall_mem_cons.mpr ⟨(List.mem_of_getElem? (i := 10) rfl), (List.forall_mem_cons.mpr ⟨(List.mem_of_getElem? (i := 11) rfl), (List.forall_mem_cons.mpr ⟨(List.mem_of_getElem? (i := 12) rfl), (List.forall_mem_cons.mpr ⟨(List.mem_of_getElem? (i := 13) rfl), (List.forall_mem_cons.mpr ⟨(List.mem_of_getElem? (i := 14) rfl), (fun _ z => nomatch z)⟩)⟩)⟩)⟩)⟩)).tr ?_
  obtain ⟨a4, e4, H⟩ := wp_b H
  refine ((wr_X1_copyFrom e4).mono (List.forall_mem_cons.mpr ⟨(List.mem_of_getElem? (i := 15) rfl), (fun _ z => nomatch z)⟩)).tr ?_
  obtain ⟨a5, e5, H⟩ := wp_b H
  refine ((wr_X7_copyFrom e5).mono (List.forall_mem_cons.mpr ⟨(List.mem_of_getElem? (i := 16) rfl), (List.forall_mem_cons.mpr ⟨(List.mem_of_getElem? (i := 17) rfl), (List.forall_mem_cons.mpr ⟨(List.mem_of_getElem? (i := 18) rfl), (fun _ z => nomatch z)⟩)⟩)⟩)).tr ?_
  replace H := wp_l H
  generalize e_h1 : am_u a5 (.inr k) 0 5 (a5.1 (.inr k2) 0 5) = h1 at H
  refine Wr.u1 (List.mem_of_getElem? (i := 19) rfl) e_h1 ?_
  cases (wp_s H)
  exact Wr.rf
theorem wr_X5_slipsBy_L {k : Nat} {a : Int32 × am_H} : ∀ s, wp (lp (s_X5_slipsBy k) s) (fun r => r = a) → ((∀ x2 x3 h, s = (7, [x2, x3], [], [], h) → Wr [((.inl 1), 2)] h (a.2)) ∧ (∀ x2 x3 x4 x5 x6 h, s = (54, [x2, x3, x4, x5, x6], [], [], h) → Wr [((.inl 1), 2)] h (a.2))) := by
  refine lp_ind _ _ (fun s H => ⟨fun x2 x3 h e => ?_, fun x2 x3 x4 x5 x6 h e => ?_⟩)
  · subst e
    rw [s_X5_slipsBy] at H
    rcases Decidable.em ((h.1 (.inr k) 6 4) ≤ x3) with c1 | c1
    · replace H := wp_t c1 H
      cases (lp_re H)
      exact Wr.rf
    · replace H := wp_f c1 H
      obtain ⟨a1, e1, H⟩ := wp_b H
      obtain ⟨b1, H⟩ := wp_g H
      rcases Decidable.em ((h.1 (.inr k) 8 x3.toNatClampNeg) = 0) with c2 | c2
      · replace H := wp_t c2 H
        obtain ⟨a2, e2, H⟩ := wp_b H
        exact (lp_in H).2 _ _ _ _ _ _ rfl
      · replace H := wp_f c2 H
        exact (lp_in H).2 _ _ _ _ _ _ rfl
  · subst e
    rw [s_X5_slipsBy] at H
    rcases Decidable.em (x5 ≤ x6) with c1 | c1
    · replace H := wp_t c1 H
      exact (lp_in H).1 _ _ _ rfl
    · replace H := wp_f c1 H
      obtain ⟨a1, e1, H⟩ := wp_b H
      refine ((wr_X1_reachOfStroke e1).mono (List.forall_mem_cons.mpr ⟨(List.mem_of_getElem? (i := 0) rfl), (fun _ z => nomatch z)⟩)).tr ?_
      exact (lp_in H).2 _ _ _ _ _ _ rfl
theorem wr_X5_slipsBy {k : Nat} {h : am_H} {a : Int32 × am_H} (e : f_X5_slipsBy k h = some a) : Wr [((.inl 1), 2)] h (a.2) := by
  have H : wp (f_X5_slipsBy k h) (fun r => r = a) := ⟨a, e, rfl⟩
  unfold f_X5_slipsBy at H
  exact (wr_X5_slipsBy_L _ H).1 _ _ _ rfl
theorem wr_X7_add {k : Nat} {x1 : Int32} {x2 : Int32} {h : am_H} {a : am_H} (e : f_X7_add k x1 x2 h = some a) : Wr [((.inr k), 18), ((.inr k), 19), ((.inr k), 17)] h (a) := by
  have H : wp (f_X7_add k x1 x2 h) (fun r => r = a) := ⟨a, e, rfl⟩
  unfold f_X7_add at H
  rcases Decidable.em ((iI (44)) ≤ (h.1 (.inr k) 17 2)) with c1 | c1
  · replace H := wp_t c1 H
    cases (wp_s H)
    exact Wr.rf
  · replace H := wp_f c1 H
    obtain ⟨b1, H⟩ := wp_g H
    replace H := wp_l H
    generalize e_h1 : am_u h (.inr k) 18 (((h.1 (.inr k) 17 2)).toNatClampNeg) x1 = h1 at H
    refine Wr.u1 (List.mem_of_getElem? (i := 0) rfl) e_h1 ?_
    obtain ⟨b2, H⟩ := wp_g H
    replace H := wp_l H
    generalize e_h2 : am_u h1 (.inr k) 19 (((h1.1 (.inr k) 17 2)).toNatClampNeg) x2 = h2 at H
    refine Wr.u1 (List.mem_of_getElem? (i := 1) rfl) e_h2 ?_
    replace H := wp_l H
    generalize e_h3 : am_u h2 (.inr k) 17 2 ((h2.1 (.inr k) 17 2) + (iI (1))) = h3 at H
    refine Wr.u1 (List.mem_of_getElem? (i := 2) rfl) e_h3 ?_
    cases (wp_s H)
    exact Wr.rf
theorem wr_X5_engraveLetter_L {k : Nat} {a : Int32 × am_H} : ∀ s, wp (lp (s_X5_engraveLetter k) s) (fun r => r = a) → ((∀ x1 x2 x3 x4 x5 h, s = (27, [x1, x2, x3, x4, x5], [], [], h) → Wr [((.inr k), 8), ((.inr k), 16), ((.inr k), 18), ((.inr k), 19), ((.inr k), 17)] h (a.2))) := by
  refine lp_ind _ _ (fun s H => fun x1 x2 x3 x4 x5 h e => ?_)
  · subst e
    rw [s_X5_engraveLetter] at H
    rcases Decidable.em (x4 ≤ x5) with c1 | c1
    · replace H := wp_t c1 H
      obtain ⟨b1, H⟩ := wp_g H
      replace H := wp_l H
      generalize e_h1 : am_u h (.inr k) 8 x1.toNatClampNeg (vp_nar .boolean (iI (1))) = h1 at H
      refine Wr.u1 (List.mem_of_getElem? (i := 0) rfl) e_h1 ?_
      cases (lp_re H)
      exact Wr.rf
    · replace H := wp_f c1 H
      obtain ⟨a1, e1, H⟩ := wp_b H
      refine ((wr_X1_reachOfStroke e1).mono (List.forall_mem_cons.mpr ⟨(List.mem_of_getElem? (i := 1) rfl), (fun _ z => nomatch z)⟩)).tr ?_
      rcases Decidable.em (a1.1 ≤ 0) with c2 | c2
      · replace H := wp_t c2 H
        exact (lp_in H) _ _ _ _ _ _ rfl
      · replace H := wp_f c2 H
        obtain ⟨a2, e2, H⟩ := wp_b H
        refine ((wr_X7_add e2).mono (List.forall_mem_cons.mpr ⟨(List.mem_of_getElem? (i := 2) rfl), (List.forall_mem_cons.mpr ⟨(List.mem_of_getElem? (i := 3) rfl), (List.forall_mem_cons.mpr ⟨(List.mem_of_getElem? (i := 4) rfl), (fun _ z => nomatch z)⟩)⟩)⟩)).tr ?_
        exact (lp_in H) _ _ _ _ _ _ rfl
theorem wr_X5_engraveLetter {k : Nat} {x1 : Int32} {h : am_H} {a : Int32 × am_H} (e : f_X5_engraveLetter k x1 h = some a) : Wr [((.inr k), 8), ((.inr k), 16), ((.inr k), 18), ((.inr k), 19), ((.inr k), 17)] h (a.2) := by
  have H : wp (f_X5_engraveLetter k x1 h) (fun r => r = a) := ⟨a, e, rfl⟩
  unfold f_X5_engraveLetter at H
  obtain ⟨a1, e1, H⟩ := wp_b H
  obtain ⟨a2, e2, H⟩ := wp_b H
  exact (wr_X5_engraveLetter_L _ H) _ _ _ _ _ _ rfl
theorem wr_X5_engravePlanned_L {k : Nat} {a : Int32 × am_H} : ∀ s, wp (lp (s_X5_engravePlanned k) s) (fun r => r = a) → ((∀ x1 x2 h, s = (4, [x1, x2], [], [], h) → Wr [((.inr k), 8), ((.inr k), 16), ((.inr k), 18), ((.inr k), 19), ((.inr k), 17)] h (a.2))) := by
  refine lp_ind _ _ (fun s H => fun x1 x2 h e => ?_)
  · subst e
    rw [s_X5_engravePlanned] at H
    rcases Decidable.em ((h.1 (.inr k) 6 4) ≤ x2) with c1 | c1
    · replace H := wp_t c1 H
      cases (lp_re H)
      exact Wr.rf
    · replace H := wp_f c1 H
      obtain ⟨a1, e1, H⟩ := wp_b H
      rcases Decidable.em (a1 = 0) with c2 | c2
      · replace H := wp_t c2 H
        exact (lp_in H) _ _ _ rfl
      · replace H := wp_f c2 H
        obtain ⟨a2, e2, H⟩ := wp_b H
        refine ((wr_X5_engraveLetter e2).mono (List.forall_mem_cons.mpr ⟨(List.mem_of_getElem? (i := 0) rfl), (List.forall_mem_cons.mpr ⟨(List.mem_of_getElem? (i := 1) rfl), (List.forall_mem_cons.mpr ⟨(List.mem_of_getElem? (i := 2) rfl), (List.forall_mem_cons.mpr ⟨(List.mem_of_getElem? (i := 3) rfl), (List.forall_mem_cons.mpr ⟨(List.mem_of_getElem? (i := 4) rfl), (fun _ z => nomatch z)⟩)⟩)⟩)⟩)⟩)).tr ?_
        exact (lp_in H) _ _ _ rfl
theorem wr_X5_engravePlanned {k : Nat} {h : am_H} {a : Int32 × am_H} (e : f_X5_engravePlanned k h = some a) : Wr [((.inr k), 8), ((.inr k), 16), ((.inr k), 18), ((.inr k), 19), ((.inr k), 17)] h (a.2) := by
  have H : wp (f_X5_engravePlanned k h) (fun r => r = a) := ⟨a, e, rfl⟩
  unfold f_X5_engravePlanned at H
  exact (wr_X5_engravePlanned_L _ H) _ _ _ rfl
theorem wr_X7_remove_L {k : Nat} {a : am_H} : ∀ s, wp (lp (s_X7_remove k) s) (fun r => r = a) → ((∀ x2 h, s = (4, [x2], [], [], h) → Wr [((.inr k), 17), ((.inr k), 18), ((.inr k), 19)] h (a))) := by
  refine lp_ind _ _ (fun s H => fun x2 h e => ?_)
  · subst e
    rw [s_X7_remove] at H
    rcases Decidable.em ((h.1 (.inr k) 17 2) ≤ x2) with c1 | c1
    · replace H := wp_t c1 H
      replace H := wp_l H
      generalize e_h1 : am_u h (.inr k) 17 2 ((h.1 (.inr k) 17 2) - (iI (1))) = h1 at H
      refine Wr.u1 (List.mem_of_getElem? (i := 0) rfl) e_h1 ?_
      cases (lp_re H)
      exact Wr.rf
    · replace H := wp_f c1 H
      obtain ⟨b1, H⟩ := wp_g H
      obtain ⟨b2, H⟩ := wp_g H
      replace H := wp_l H
      generalize e_h1 : am_u h (.inr k) 18 (((x2 - (iI (1)))).toNatClampNeg) (h.1 (.inr k) 18 x2.toNatClampNeg) = h1 at H
      refine Wr.u1 (List.mem_of_getElem? (i := 1) rfl) e_h1 ?_
      obtain ⟨b3, H⟩ := wp_g H
      obtain ⟨b4, H⟩ := wp_g H
      replace H := wp_l H
      generalize e_h2 : am_u h1 (.inr k) 19 (((x2 - (iI (1)))).toNatClampNeg) (h1.1 (.inr k) 19 x2.toNatClampNeg) = h2 at H
      refine Wr.u1 (List.mem_of_getElem? (i := 2) rfl) e_h2 ?_
      exact (lp_in H) _ _ rfl
theorem wr_X7_remove {k : Nat} {x1 : Int32} {h : am_H} {a : am_H} (e : f_X7_remove k x1 h = some a) : Wr [((.inr k), 17), ((.inr k), 18), ((.inr k), 19)] h (a) := by
  have H : wp (f_X7_remove k x1 h) (fun r => r = a) := ⟨a, e, rfl⟩
  unfold f_X7_remove at H
  exact (wr_X7_remove_L _ H) _ _ rfl
theorem wr_X5_mendScratch {k : Nat} {x1 : Int32} {h : am_H} {a : Int32 × am_H} (e : f_X5_mendScratch k x1 h = some a) : Wr [((.inr k), 9), ((.inr k), 17), ((.inr k), 18), ((.inr k), 19)] h (a.2) := by
  have H : wp (f_X5_mendScratch k x1 h) (fun r => r = a) := ⟨a, e, rfl⟩
  unfold f_X5_mendScratch at H
  obtain ⟨b1, H⟩ := wp_g H
  obtain ⟨b2, H⟩ := wp_g H
  obtain ⟨b3, H⟩ := wp_g H
  replace H := wp_l H
  generalize e_h1 : am_u h (.inr k) 9 (((h.1 (.inr k) 18 x1.toNatClampNeg)).toNatClampNeg) ((h.1 (.inr k) 9 ((h.1 (.inr k) 18 x1.toNatClampNeg)).toNatClampNeg) + (iI (1))) = h1 at H
  refine Wr.u1 (List.mem_of_getElem? (i := 0) rfl) e_h1 ?_
  obtain ⟨a1, e1, H⟩ := wp_b H
  refine ((wr_X7_remove e1).mono (List.forall_mem_cons.mpr ⟨(List.mem_of_getElem? (i := 1) rfl), (List.forall_mem_cons.mpr ⟨(List.mem_of_getElem? (i := 2) rfl), (List.forall_mem_cons.mpr ⟨(List.mem_of_getElem? (i := 3) rfl), (fun _ z => nomatch z)⟩)⟩)⟩)).tr ?_
  cases (wp_s H)
  exact Wr.rf
theorem wr_X7_removeAllOf_L {k : Nat} {a : Int32 × am_H} : ∀ s, wp (lp (s_X7_removeAllOf k) s) (fun r => r = a) → ((∀ x1 x2 x3 h, s = (4, [x1, x2, x3], [], [], h) → Wr [((.inr k), 17), ((.inr k), 18), ((.inr k), 19)] h (a.2))) := by
  refine lp_ind _ _ (fun s H => fun x1 x2 x3 h e => ?_)
  · subst e
    rw [s_X7_removeAllOf] at H
    rcases Decidable.em ((h.1 (.inr k) 17 2) ≤ x3) with c1 | c1
    · replace H := wp_t c1 H
      replace H := wp_l H
      generalize e_h1 : am_u h (.inr k) 17 2 x2 = h1 at H
      refine Wr.u1 (List.mem_of_getElem? (i := 0) rfl) e_h1 ?_
      cases (lp_re H)
      exact Wr.rf
    · replace H := wp_f c1 H
      obtain ⟨b1, H⟩ := wp_g H
      rcases Decidable.em ((h.1 (.inr k) 18 x3.toNatClampNeg) = x1) with c2 | c2
      · replace H := wp_t c2 H
        exact (lp_in H) _ _ _ _ rfl
      · replace H := wp_f c2 H
        obtain ⟨b2, H⟩ := wp_g H
        obtain ⟨b3, H⟩ := wp_g H
        replace H := wp_l H
        generalize e_h1 : am_u h (.inr k) 18 x2.toNatClampNeg (h.1 (.inr k) 18 x3.toNatClampNeg) = h1 at H
        refine Wr.u1 (List.mem_of_getElem? (i := 1) rfl) e_h1 ?_
        obtain ⟨b4, H⟩ := wp_g H
        obtain ⟨b5, H⟩ := wp_g H
        replace H := wp_l H
        generalize e_h2 : am_u h1 (.inr k) 19 x2.toNatClampNeg (h1.1 (.inr k) 19 x3.toNatClampNeg) = h2 at H
        refine Wr.u1 (List.mem_of_getElem? (i := 2) rfl) e_h2 ?_
        exact (lp_in H) _ _ _ _ rfl
theorem wr_X7_removeAllOf {k : Nat} {x1 : Int32} {h : am_H} {a : Int32 × am_H} (e : f_X7_removeAllOf k x1 h = some a) : Wr [((.inr k), 17), ((.inr k), 18), ((.inr k), 19)] h (a.2) := by
  have H : wp (f_X7_removeAllOf k x1 h) (fun r => r = a) := ⟨a, e, rfl⟩
  unfold f_X7_removeAllOf at H
  exact (wr_X7_removeAllOf_L _ H) _ _ _ _ rfl
theorem wr_X5_polishLetter {k : Nat} {x1 : Int32} {h : am_H} {a : Int32 × am_H} (e : f_X5_polishLetter k x1 h = some a) : Wr [((.inr k), 8), ((.inr k), 9), ((.inr k), 17), ((.inr k), 18), ((.inr k), 19)] h (a.2) := by
  have H : wp (f_X5_polishLetter k x1 h) (fun r => r = a) := ⟨a, e, rfl⟩
  unfold f_X5_polishLetter at H
  obtain ⟨b1, H⟩ := wp_g H
  replace H := wp_l H
  generalize e_h1 : am_u h (.inr k) 8 x1.toNatClampNeg (vp_nar .boolean (iI (0))) = h1 at H
  refine Wr.u1 (List.mem_of_getElem? (i := 0) rfl) e_h1 ?_
  obtain ⟨b2, H⟩ := wp_g H
  obtain ⟨b3, H⟩ := wp_g H
  replace H := wp_l H
  generalize e_h2 : am_u h1 (.inr k) 9 x1.toNatClampNeg ((h1.1 (.inr k) 9 x1.toNatClampNeg) + (iI (1))) = h2 at H
  refine Wr.u1 (List.mem_of_getElem? (i := 1) rfl) e_h2 ?_
  obtain ⟨a1, e1, H⟩ := wp_b H
  refine ((wr_X7_removeAllOf e1).mono (List.forall_mem_cons.mpr ⟨(List.mem_of_getElem? (i := 2) rfl), (List.forall_mem_cons.mpr ⟨(List.mem_of_getElem? (i := 3) rfl), (List.forall_mem_cons.mpr ⟨(List.mem_of_getElem? (i := 4) rfl), (fun _ z => nomatch z)⟩)⟩)⟩)).tr ?_
  cases (wp_s H)
  exact Wr.rf
theorem wr_X10_advance  {h : am_H} {a : am_H} (e : f_X10_advance h = some a) : Wr [((.inl 1), 8)] h (a) := by
  have H : wp (f_X10_advance h) (fun r => r = a) := ⟨a, e, rfl⟩
  unfold f_X10_advance at H
  obtain ⟨a1, e1, H⟩ := wp_b H
  replace H := wp_l H
  generalize e_h1 : am_u h (.inl 1) 8 3 a1 = h1 at H
  refine Wr.u1 (List.mem_of_getElem? (i := 0) rfl) e_h1 ?_
  obtain ⟨a2, e2, H⟩ := wp_b H
  rcases Decidable.em ((h1.1 (.inl 1) 8 3) < (h1.1 (.inl 1) 8 1)) with c1 | c1
  · replace H := wp_t c1 H
    obtain ⟨a3, e3, H⟩ := wp_b H
    rcases Decidable.em (a3 = 0) with c2 | c2
    · replace H := wp_t c2 H
      obtain ⟨a4, e4, H⟩ := wp_b H
      rcases Decidable.em (a4 = 0) with c3 | c3
      · replace H := wp_t c3 H
        replace H := wp_l H
        generalize e_h2 : am_u h1 (.inl 1) 8 4 ((h1.1 (.inl 1) 8 3) + (iI (1))) = h2 at H
        refine Wr.u1 (List.mem_of_getElem? (i := 0) rfl) e_h2 ?_
        rcases Decidable.em (a2 = (iI (59))) with c4 | c4
        · replace H := wp_t c4 H
          replace H := wp_l H
          generalize e_h3 : am_u h2 (.inl 1) 8 2 (iI (3)) = h3 at H
          refine Wr.u1 (List.mem_of_getElem? (i := 0) rfl) e_h3 ?_
          cases (wp_s H)
          exact Wr.rf
        · replace H := wp_f c4 H
          rcases Decidable.em (a2 = (iI (40))) with c5 | c5
          · replace H := wp_t c5 H
            replace H := wp_l H
            generalize e_h3 : am_u h2 (.inl 1) 8 2 (iI (3)) = h3 at H
            refine Wr.u1 (List.mem_of_getElem? (i := 0) rfl) e_h3 ?_
            cases (wp_s H)
            exact Wr.rf
          · replace H := wp_f c5 H
            rcases Decidable.em (a2 = (iI (41))) with c6 | c6
            · replace H := wp_t c6 H
              replace H := wp_l H
              generalize e_h3 : am_u h2 (.inl 1) 8 2 (iI (3)) = h3 at H
              refine Wr.u1 (List.mem_of_getElem? (i := 0) rfl) e_h3 ?_
              cases (wp_s H)
              exact Wr.rf
            · replace H := wp_f c6 H
              replace H := wp_l H
              generalize e_h3 : am_u h2 (.inl 1) 8 2 (iI (4)) = h3 at H
              refine Wr.u1 (List.mem_of_getElem? (i := 0) rfl) e_h3 ?_
              cases (wp_s H)
              exact Wr.rf
      · replace H := wp_f c3 H
        obtain ⟨a5, e5, H⟩ := wp_b H
        replace H := wp_l H
        generalize e_h2 : am_u h1 (.inl 1) 8 4 a5 = h2 at H
        refine Wr.u1 (List.mem_of_getElem? (i := 0) rfl) e_h2 ?_
        rcases Decidable.em ((iI (3)) < ((h2.1 (.inl 1) 8 4) - (h2.1 (.inl 1) 8 3))) with c4 | c4
        · replace H := wp_t c4 H
          replace H := wp_l H
          generalize e_h3 : am_u h2 (.inl 1) 8 2 (iI (4)) = h3 at H
          refine Wr.u1 (List.mem_of_getElem? (i := 0) rfl) e_h3 ?_
          cases (wp_s H)
          exact Wr.rf
        · replace H := wp_f c4 H
          replace H := wp_l H
          generalize e_h3 : am_u h2 (.inl 1) 8 2 (iI (2)) = h3 at H
          refine Wr.u1 (List.mem_of_getElem? (i := 0) rfl) e_h3 ?_
          cases (wp_s H)
          exact Wr.rf
    · replace H := wp_f c2 H
      obtain ⟨a4, e4, H⟩ := wp_b H
      replace H := wp_l H
      generalize e_h2 : am_u h1 (.inl 1) 8 4 a4 = h2 at H
      refine Wr.u1 (List.mem_of_getElem? (i := 0) rfl) e_h2 ?_
      rcases Decidable.em ((iI (8)) < ((h2.1 (.inl 1) 8 4) - (h2.1 (.inl 1) 8 3))) with c3 | c3
      · replace H := wp_t c3 H
        replace H := wp_l H
        generalize e_h3 : am_u h2 (.inl 1) 8 2 (iI (4)) = h3 at H
        refine Wr.u1 (List.mem_of_getElem? (i := 0) rfl) e_h3 ?_
        cases (wp_s H)
        exact Wr.rf
      · replace H := wp_f c3 H
        replace H := wp_l H
        generalize e_h3 : am_u h2 (.inl 1) 8 2 (iI (1)) = h3 at H
        refine Wr.u1 (List.mem_of_getElem? (i := 0) rfl) e_h3 ?_
        cases (wp_s H)
        exact Wr.rf
  · replace H := wp_f c1 H
    replace H := wp_l H
    generalize e_h2 : am_u h1 (.inl 1) 8 4 (h1.1 (.inl 1) 8 1) = h2 at H
    refine Wr.u1 (List.mem_of_getElem? (i := 0) rfl) e_h2 ?_
    replace H := wp_l H
    generalize e_h3 : am_u h2 (.inl 1) 8 2 (iI (0)) = h3 at H
    refine Wr.u1 (List.mem_of_getElem? (i := 0) rfl) e_h3 ?_
    cases (wp_s H)
    exact Wr.rf
theorem wr_X10_begin  {h : am_H} {a : am_H} (e : f_X10_begin h = some a) : Wr [((.inl 1), 8)] h (a) := by
  have H : wp (f_X10_begin h) (fun r => r = a) := ⟨a, e, rfl⟩
  unfold f_X10_begin at H
  replace H := wp_l H
  generalize e_h1 : am_u h (.inl 1) 8 6 (iI (0)) = h1 at H
  refine Wr.u1 (List.mem_of_getElem? (i := 0) rfl) e_h1 ?_
  replace H := wp_l H
  generalize e_h2 : am_u h1 (.inl 1) 8 7 (iI (-1)) = h2 at H
  refine Wr.u1 (List.mem_of_getElem? (i := 0) rfl) e_h2 ?_
  replace H := wp_l H
  generalize e_h3 : am_u h2 (.inl 1) 8 4 (iI (0)) = h3 at H
  refine Wr.u1 (List.mem_of_getElem? (i := 0) rfl) e_h3 ?_
  obtain ⟨a1, e1, H⟩ := wp_b H
  refine ((wr_X10_advance e1).mono (List.forall_mem_cons.mpr ⟨(List.mem_of_getElem? (i := 0) rfl), (fun _ z => nomatch z)⟩)).tr ?_
  cases (wp_s H)
  exact Wr.rf
theorem wr_X10_fail {x1 : Int32} {h : am_H} {a : Int32 × am_H} (e : f_X10_fail x1 h = some a) : Wr [((.inl 1), 8)] h (a.2) := by
  have H : wp (f_X10_fail x1 h) (fun r => r = a) := ⟨a, e, rfl⟩
  unfold f_X10_fail at H
  replace H := wp_l H
  generalize e_h1 : am_u h (.inl 1) 8 6 x1 = h1 at H
  refine Wr.u1 (List.mem_of_getElem? (i := 0) rfl) e_h1 ?_
  replace H := wp_l H
  generalize e_h2 : am_u h1 (.inl 1) 8 7 (h1.1 (.inl 1) 8 3) = h2 at H
  refine Wr.u1 (List.mem_of_getElem? (i := 0) rfl) e_h2 ?_
  cases (wp_s H)
  exact Wr.rf
theorem wr_X10_takeNumber_L  {a : Int32 × am_H} : ∀ s, wp (lp (s_X10_takeNumber) s) (fun r => r = a) → ((∀ x1 x2 x3 x4 h, s = (22, [x1, x2, x3, x4], [], [], h) → Wr [((.inl 1), 8)] h (a.2))) := by
  refine lp_ind _ _ (fun s H => fun x1 x2 x3 x4 h e => ?_)
  · subst e
    rw [s_X10_takeNumber] at H
    rcases Decidable.em ((h.1 (.inl 1) 8 4) ≤ x4) with c1 | c1
    · replace H := wp_t c1 H
      obtain ⟨a1, e1, H⟩ := wp_b H
      rcases Decidable.em (a1 = 0) with c2 | c2
      · replace H := wp_t c2 H
        obtain ⟨a2, e2, H⟩ := wp_b H
        refine ((wr_X10_fail e2).mono (List.forall_mem_cons.mpr ⟨(List.mem_of_getElem? (i := 0) rfl), (fun _ z => nomatch z)⟩)).tr ?_
        obtain ⟨b1, H⟩ := wp_g H
        cases (lp_re H)
        exact Wr.rf
      · replace H := wp_f c2 H
        replace H := wp_l H
        generalize e_h1 : am_u h (.inl 1) 8 5 x3 = h1 at H
        refine Wr.u1 (List.mem_of_getElem? (i := 0) rfl) e_h1 ?_
        obtain ⟨a2, e2, H⟩ := wp_b H
        refine ((wr_X10_advance e2).mono (List.forall_mem_cons.mpr ⟨(List.mem_of_getElem? (i := 0) rfl), (fun _ z => nomatch z)⟩)).tr ?_
        cases (lp_re H)
        exact Wr.rf
    · replace H := wp_f c1 H
      obtain ⟨a1, e1, H⟩ := wp_b H
      exact (lp_in H) _ _ _ _ _ rfl
theorem wr_X10_takeNumber {x1 : Int32} {x2 : Int32} {h : am_H} {a : Int32 × am_H} (e : f_X10_takeNumber x1 x2 h = some a) : Wr [((.inl 1), 8)] h (a.2) := by
  have H : wp (f_X10_takeNumber x1 x2 h) (fun r => r = a) := ⟨a, e, rfl⟩
  unfold f_X10_takeNumber at H
  rcases Decidable.em ((h.1 (.inl 1) 8 2) = (iI (2))) with c1 | c1
  · replace H := wp_t c1 H
    exact (wr_X10_takeNumber_L _ H) _ _ _ _ _ rfl
  · replace H := wp_f c1 H
    obtain ⟨a1, e1, H⟩ := wp_b H
    refine ((wr_X10_fail e1).mono (List.forall_mem_cons.mpr ⟨(List.mem_of_getElem? (i := 0) rfl), (fun _ z => nomatch z)⟩)).tr ?_
    obtain ⟨b1, H⟩ := wp_g H
    cases (wp_s H)
    exact Wr.rf
theorem wr_X10_takeIfWord {t1 : Nat} {h : am_H} {a : Int32 × am_H} (e : f_X10_takeIfWord t1 h = some a) : Wr [((.inl 1), 8)] h (a.2) := by
  have H : wp (f_X10_takeIfWord t1 h) (fun r => r = a) := ⟨a, e, rfl⟩
  unfold f_X10_takeIfWord at H
  obtain ⟨a1, e1, H⟩ := wp_b H
  rcases Decidable.em (a1 = 0) with c1 | c1
  · replace H := wp_t c1 H
    obtain ⟨b1, H⟩ := wp_g H
    cases (wp_s H)
    exact Wr.rf
  · replace H := wp_f c1 H
    obtain ⟨a2, e2, H⟩ := wp_b H
    refine ((wr_X10_advance e2).mono (List.forall_mem_cons.mpr ⟨(List.mem_of_getElem? (i := 0) rfl), (fun _ z => nomatch z)⟩)).tr ?_
    obtain ⟨b1, H⟩ := wp_g H
    cases (wp_s H)
    exact Wr.rf
theorem wr_X9_readArc {k : Nat} {h : am_H} {a : Int32 × am_H} (e : f_X9_readArc k h = some a) : Wr [((.inl 1), 8), ((.inr k), 2), ((.inr k), 3), ((.inr k), 5), ((.inr k), 4), ((.inr k), 1)] h (a.2) := by
  have H : wp (f_X9_readArc k h) (fun r => r = a) := ⟨a, e, rfl⟩
  unfold f_X9_readArc at H
  rcases Decidable.em ((h.1 (.inr k) 1 4) < (iI (8))) with c1 | c1
  · replace H := wp_t c1 H
    obtain ⟨a1, e1, H⟩ := wp_b H
    refine ((wr_X10_advance e1).mono (List.forall_mem_cons.mpr ⟨(List.mem_of_getElem? (i := 0) rfl), (fun _ z => nomatch z)⟩)).tr ?_
    obtain ⟨a2, e2, H⟩ := wp_b H
    refine ((wr_X10_takeNumber e2).mono (List.forall_mem_cons.mpr ⟨(List.mem_of_getElem? (i := 0) rfl), (fun _ z => nomatch z)⟩)).tr ?_
    rcases Decidable.em (a2.1 = 0) with c2 | c2
    · replace H := wp_t c2 H
      cases (wp_s H)
      exact Wr.rf
    · replace H := wp_f c2 H
      obtain ⟨a3, e3, H⟩ := wp_b H
      refine ((wr_X10_takeNumber e3).mono (List.forall_mem_cons.mpr ⟨(List.mem_of_getElem? (i := 0) rfl), (fun _ z => nomatch z)⟩)).tr ?_
      rcases Decidable.em (a3.1 = 0) with c3 | c3
      · replace H := wp_t c3 H
        cases (wp_s H)
        exact Wr.rf
      · replace H := wp_f c3 H
        obtain ⟨a4, e4, H⟩ := wp_b H
        refine ((wr_X10_takeIfWord e4).mono (List.forall_mem_cons.mpr ⟨(List.mem_of_getElem? (i := 0) rfl), (fun _ z => nomatch z)⟩)).tr ?_
        obtain ⟨a5, e5, H⟩ := wp_b H
        refine ((wr_X10_takeIfWord e5).mono (List.forall_mem_cons.mpr ⟨(List.mem_of_getElem? (i := 0) rfl), (fun _ z => nomatch z)⟩)).tr ?_
        rcases Decidable.em (a5.1 = 0) with c4 | c4
        · replace H := wp_t c4 H
          obtain ⟨a6, e6, H⟩ := wp_b H
          refine ((wr_X0_addArc e6).mono (List.forall_mem_cons.mpr ⟨(List.mem_of_getElem? (i := 1) rfl), (List.forall_mem_cons.mpr ⟨(List.mem_of_getElem? (i := 2) rfl), (List.forall_mem_cons.mpr ⟨(List.mem_of_getElem? (i := 3) rfl), (List.forall_mem_cons.mpr ⟨(List.mem_of_getElem? (i := 4) rfl), (List.forall_mem_cons.mpr ⟨(List.mem_of_getElem? (i := 5) rfl), (fun _ z => nomatch z)⟩)⟩)⟩)⟩)⟩)).tr ?_
          cases (wp_s H)
          exact Wr.rf
        · replace H := wp_f c4 H
          obtain ⟨a6, e6, H⟩ := wp_b H
          refine ((wr_X10_takeNumber e6).mono (List.forall_mem_cons.mpr ⟨(List.mem_of_getElem? (i := 0) rfl), (fun _ z => nomatch z)⟩)).tr ?_
          rcases Decidable.em (a6.1 = 0) with c5 | c5
          · replace H := wp_t c5 H
            cases (wp_s H)
            exact Wr.rf
          · replace H := wp_f c5 H
            obtain ⟨a7, e7, H⟩ := wp_b H
            refine ((wr_X0_addArc e7).mono (List.forall_mem_cons.mpr ⟨(List.mem_of_getElem? (i := 1) rfl), (List.forall_mem_cons.mpr ⟨(List.mem_of_getElem? (i := 2) rfl), (List.forall_mem_cons.mpr ⟨(List.mem_of_getElem? (i := 3) rfl), (List.forall_mem_cons.mpr ⟨(List.mem_of_getElem? (i := 4) rfl), (List.forall_mem_cons.mpr ⟨(List.mem_of_getElem? (i := 5) rfl), (fun _ z => nomatch z)⟩)⟩)⟩)⟩)⟩)).tr ?_
            cases (wp_s H)
            exact Wr.rf
  · replace H := wp_f c1 H
    obtain ⟨a1, e1, H⟩ := wp_b H
    refine ((wr_X10_fail e1).mono (List.forall_mem_cons.mpr ⟨(List.mem_of_getElem? (i := 0) rfl), (fun _ z => nomatch z)⟩)).tr ?_
    obtain ⟨b1, H⟩ := wp_g H
    cases (wp_s H)
    exact Wr.rf
theorem wr_X9_readName {k : Nat} {h : am_H} {a : Int32 × am_H} (e : f_X9_readName k h = some a) : Wr [((.inl 1), 8), ((.inr k), 7), ((.inr k), 8), ((.inr k), 9), ((.inr k), 6)] h (a.2) := by
  have H : wp (f_X9_readName k h) (fun r => r = a) := ⟨a, e, rfl⟩
  unfold f_X9_readName at H
  obtain ⟨a1, e1, H⟩ := wp_b H
  refine ((wr_X10_advance e1).mono (List.forall_mem_cons.mpr ⟨(List.mem_of_getElem? (i := 0) rfl), (fun _ z => nomatch z)⟩)).tr ?_
  obtain ⟨a2, e2, H⟩ := wp_b H
  rcases Decidable.em (a2 = 0) with c1 | c1
  · replace H := wp_t c1 H
    obtain ⟨a3, e3, H⟩ := wp_b H
    refine ((wr_X10_fail e3).mono (List.forall_mem_cons.mpr ⟨(List.mem_of_getElem? (i := 0) rfl), (fun _ z => nomatch z)⟩)).tr ?_
    obtain ⟨b1, H⟩ := wp_g H
    cases (wp_s H)
    exact Wr.rf
  · replace H := wp_f c1 H
    rcases Decidable.em ((((a1.1 (.inr k) 6 4) + (a1.1 (.inl 1) 8 4)) - (a1.1 (.inl 1) 8 3)) ≤ (iI (20))) with c2 | c2
    · replace H := wp_t c2 H
      obtain ⟨a3, e3, H⟩ := wp_b H
      refine ((wr_X4_addWord e3).mono (List.forall_mem_cons.mpr ⟨(List.mem_of_getElem? (i := 1) rfl), (List.forall_mem_cons.mpr ⟨(List.mem_of_getElem? (i := 2) rfl), (List.forall_mem_cons.mpr ⟨(List.mem_of_getElem? (i := 3) rfl), (List.forall_mem_cons.mpr ⟨(List.mem_of_getElem? (i := 4) rfl), (fun _ z => nomatch z)⟩)⟩)⟩)⟩)).tr ?_
      obtain ⟨a4, e4, H⟩ := wp_b H
      refine ((wr_X10_advance e4).mono (List.forall_mem_cons.mpr ⟨(List.mem_of_getElem? (i := 0) rfl), (fun _ z => nomatch z)⟩)).tr ?_
      cases (wp_s H)
      exact Wr.rf
    · replace H := wp_f c2 H
      obtain ⟨a3, e3, H⟩ := wp_b H
      refine ((wr_X10_fail e3).mono (List.forall_mem_cons.mpr ⟨(List.mem_of_getElem? (i := 0) rfl), (fun _ z => nomatch z)⟩)).tr ?_
      obtain ⟨b1, H⟩ := wp_g H
      cases (wp_s H)
      exact Wr.rf
theorem wr_X9_readWide {k : Nat} {h : am_H} {a : Int32 × am_H} (e : f_X9_readWide k h = some a) : Wr [((.inl 1), 8), ((.inr k), 10)] h (a.2) := by
  have H : wp (f_X9_readWide k h) (fun r => r = a) := ⟨a, e, rfl⟩
  unfold f_X9_readWide at H
  obtain ⟨a1, e1, H⟩ := wp_b H
  refine ((wr_X10_advance e1).mono (List.forall_mem_cons.mpr ⟨(List.mem_of_getElem? (i := 0) rfl), (fun _ z => nomatch z)⟩)).tr ?_
  obtain ⟨a2, e2, H⟩ := wp_b H
  rcases Decidable.em (a2 = 0) with c1 | c1
  · replace H := wp_t c1 H
    obtain ⟨a3, e3, H⟩ := wp_b H
    refine ((wr_X10_fail e3).mono (List.forall_mem_cons.mpr ⟨(List.mem_of_getElem? (i := 0) rfl), (fun _ z => nomatch z)⟩)).tr ?_
    obtain ⟨b1, H⟩ := wp_g H
    cases (wp_s H)
    exact Wr.rf
  · replace H := wp_f c1 H
    obtain ⟨a3, e3, H⟩ := wp_b H
    refine ((wr_X10_advance e3).mono (List.forall_mem_cons.mpr ⟨(List.mem_of_getElem? (i := 0) rfl), (fun _ z => nomatch z)⟩)).tr ?_
    obtain ⟨a4, e4, H⟩ := wp_b H
    refine ((wr_X10_takeNumber e4).mono (List.forall_mem_cons.mpr ⟨(List.mem_of_getElem? (i := 0) rfl), (fun _ z => nomatch z)⟩)).tr ?_
    rcases Decidable.em (a4.1 = 0) with c2 | c2
    · replace H := wp_t c2 H
      cases (wp_s H)
      exact Wr.rf
    · replace H := wp_f c2 H
      obtain ⟨a5, e5, H⟩ := wp_b H
      refine ((wr_X4_widenWord e5).mono (List.forall_mem_cons.mpr ⟨(List.mem_of_getElem? (i := 1) rfl), (fun _ z => nomatch z)⟩)).tr ?_
      cases (wp_s H)
      exact Wr.rf
theorem wr_X9_readFlourish {k : Nat} {h : am_H} {a : Int32 × am_H} (e : f_X9_readFlourish k h = some a) : Wr [((.inl 1), 8), ((.inr k), 12), ((.inr k), 13), ((.inr k), 14), ((.inr k), 15), ((.inr k), 11)] h (a.2) := by
  have H : wp (f_X9_readFlourish k h) (fun r => r = a) := ⟨a, e, rfl⟩
  unfold f_X9_readFlourish at H
  rcases Decidable.em ((h.1 (.inr k) 11 4) < (iI (6))) with c1 | c1
  · replace H := wp_t c1 H
    obtain ⟨a1, e1, H⟩ := wp_b H
    refine ((wr_X10_advance e1).mono (List.forall_mem_cons.mpr ⟨(List.mem_of_getElem? (i := 0) rfl), (fun _ z => nomatch z)⟩)).tr ?_
    obtain ⟨a2, e2, H⟩ := wp_b H
    rcases Decidable.em (a2 = 0) with c2 | c2
    · replace H := wp_t c2 H
      obtain ⟨a3, e3, H⟩ := wp_b H
      refine ((wr_X10_fail e3).mono (List.forall_mem_cons.mpr ⟨(List.mem_of_getElem? (i := 0) rfl), (fun _ z => nomatch z)⟩)).tr ?_
      obtain ⟨b1, H⟩ := wp_g H
      cases (wp_s H)
      exact Wr.rf
    · replace H := wp_f c2 H
      obtain ⟨a3, e3, H⟩ := wp_b H
      refine ((wr_X2_beginKind e3).mono (List.forall_mem_cons.mpr ⟨(List.mem_of_getElem? (i := 1) rfl), (fun _ z => nomatch z)⟩)).tr ?_
      obtain ⟨a4, e4, H⟩ := wp_b H
      rcases Decidable.em (a4 = 0) with c3 | c3
      · replace H := wp_t c3 H
        obtain ⟨a5, e5, H⟩ := wp_b H
        refine ((wr_X10_advance e5).mono (List.forall_mem_cons.mpr ⟨(List.mem_of_getElem? (i := 0) rfl), (fun _ z => nomatch z)⟩)).tr ?_
        obtain ⟨a6, e6, H⟩ := wp_b H
        refine ((wr_X10_takeNumber e6).mono (List.forall_mem_cons.mpr ⟨(List.mem_of_getElem? (i := 0) rfl), (fun _ z => nomatch z)⟩)).tr ?_
        rcases Decidable.em (a6.1 = 0) with c4 | c4
        · replace H := wp_t c4 H
          cases (wp_s H)
          exact Wr.rf
        · replace H := wp_f c4 H
          obtain ⟨a7, e7, H⟩ := wp_b H
          refine ((wr_X10_takeNumber e7).mono (List.forall_mem_cons.mpr ⟨(List.mem_of_getElem? (i := 0) rfl), (fun _ z => nomatch z)⟩)).tr ?_
          rcases Decidable.em (a7.1 = 0) with c5 | c5
          · replace H := wp_t c5 H
            cases (wp_s H)
            exact Wr.rf
          · replace H := wp_f c5 H
            obtain ⟨a8, e8, H⟩ := wp_b H
            refine ((wr_X10_takeNumber e8).mono (List.forall_mem_cons.mpr ⟨(List.mem_of_getElem? (i := 0) rfl), (fun _ z => nomatch z)⟩)).tr ?_
            rcases Decidable.em (a8.1 = 0) with c6 | c6
            · replace H := wp_t c6 H
              cases (wp_s H)
              exact Wr.rf
            · replace H := wp_f c6 H
              obtain ⟨a9, e9, H⟩ := wp_b H
              refine ((wr_X2_endKind e9).mono (List.forall_mem_cons.mpr ⟨(List.mem_of_getElem? (i := 2) rfl), (List.forall_mem_cons.mpr ⟨(List.mem_of_getElem? (i := 3) rfl), (List.forall_mem_cons.mpr ⟨(List.mem_of_getElem? (i := 4) rfl), (List.forall_mem_cons.mpr ⟨(List.mem_of_getElem? (i := 5) rfl), (fun _ z => nomatch z)⟩)⟩)⟩)⟩)).tr ?_
              cases (wp_s H)
              exact Wr.rf
      · replace H := wp_f c3 H
        obtain ⟨a5, e5, H⟩ := wp_b H
        refine ((wr_X10_fail e5).mono (List.forall_mem_cons.mpr ⟨(List.mem_of_getElem? (i := 0) rfl), (fun _ z => nomatch z)⟩)).tr ?_
        obtain ⟨b1, H⟩ := wp_g H
        cases (wp_s H)
        exact Wr.rf
  · replace H := wp_f c1 H
    obtain ⟨a1, e1, H⟩ := wp_b H
    refine ((wr_X10_fail e1).mono (List.forall_mem_cons.mpr ⟨(List.mem_of_getElem? (i := 0) rfl), (fun _ z => nomatch z)⟩)).tr ?_
    obtain ⟨b1, H⟩ := wp_g H
    cases (wp_s H)
    exact Wr.rf
theorem wr_X9_readSeed {k : Nat} {h : am_H} {a : Int32 × am_H} (e : f_X9_readSeed k h = some a) : Wr [((.inl 1), 10), ((.inl 1), 8), ((.inr k), 16)] h (a.2) := by
  have H : wp (f_X9_readSeed k h) (fun r => r = a) := ⟨a, e, rfl⟩
  unfold f_X9_readSeed at H
  rcases Decidable.em ((h.1 (.inl 1) 10 0) = 0) with c1 | c1
  · replace H := wp_t c1 H
    replace H := wp_l H
    generalize e_h1 : am_u h (.inl 1) 10 0 (iI (1)) = h1 at H
    refine Wr.u1 (List.mem_of_getElem? (i := 0) rfl) e_h1 ?_
    obtain ⟨a1, e1, H⟩ := wp_b H
    refine ((wr_X10_advance e1).mono (List.forall_mem_cons.mpr ⟨(List.mem_of_getElem? (i := 1) rfl), (fun _ z => nomatch z)⟩)).tr ?_
    obtain ⟨a2, e2, H⟩ := wp_b H
    refine ((wr_X10_takeNumber e2).mono (List.forall_mem_cons.mpr ⟨(List.mem_of_getElem? (i := 1) rfl), (fun _ z => nomatch z)⟩)).tr ?_
    rcases Decidable.em (a2.1 = 0) with c2 | c2
    · replace H := wp_t c2 H
      cases (wp_s H)
      exact Wr.rf
    · replace H := wp_f c2 H
      replace H := wp_l H
      generalize e_h2 : am_u a2.2 (.inr k) 16 1 (a2.2.1 (.inl 1) 8 5) = h2 at H
      refine Wr.u1 (List.mem_of_getElem? (i := 2) rfl) e_h2 ?_
      cases (wp_s H)
      exact Wr.rf
  · replace H := wp_f c1 H
    obtain ⟨a1, e1, H⟩ := wp_b H
    refine ((wr_X10_fail e1).mono (List.forall_mem_cons.mpr ⟨(List.mem_of_getElem? (i := 1) rfl), (fun _ z => nomatch z)⟩)).tr ?_
    obtain ⟨b1, H⟩ := wp_g H
    cases (wp_s H)
    exact Wr.rf
theorem wr_X9_readSharp {k : Nat} {h : am_H} {a : Int32 × am_H} (e : f_X9_readSharp k h = some a) : Wr [((.inl 1), 10), ((.inl 1), 8), ((.inr k), 16)] h (a.2) := by
  have H : wp (f_X9_readSharp k h) (fun r => r = a) := ⟨a, e, rfl⟩
  unfold f_X9_readSharp at H
  rcases Decidable.em ((h.1 (.inl 1) 10 1) = 0) with c1 | c1
  · replace H := wp_t c1 H
    replace H := wp_l H
    generalize e_h1 : am_u h (.inl 1) 10 1 (iI (1)) = h1 at H
    refine Wr.u1 (List.mem_of_getElem? (i := 0) rfl) e_h1 ?_
    obtain ⟨a1, e1, H⟩ := wp_b H
    refine ((wr_X10_advance e1).mono (List.forall_mem_cons.mpr ⟨(List.mem_of_getElem? (i := 1) rfl), (fun _ z => nomatch z)⟩)).tr ?_
    obtain ⟨a2, e2, H⟩ := wp_b H
    refine ((wr_X10_takeNumber e2).mono (List.forall_mem_cons.mpr ⟨(List.mem_of_getElem? (i := 1) rfl), (fun _ z => nomatch z)⟩)).tr ?_
    rcases Decidable.em (a2.1 = 0) with c2 | c2
    · replace H := wp_t c2 H
      cases (wp_s H)
      exact Wr.rf
    · replace H := wp_f c2 H
      replace H := wp_l H
      generalize e_h2 : am_u a2.2 (.inr k) 16 0 (a2.2.1 (.inl 1) 8 5) = h2 at H
      refine Wr.u1 (List.mem_of_getElem? (i := 2) rfl) e_h2 ?_
      cases (wp_s H)
      exact Wr.rf
  · replace H := wp_f c1 H
    obtain ⟨a1, e1, H⟩ := wp_b H
    refine ((wr_X10_fail e1).mono (List.forall_mem_cons.mpr ⟨(List.mem_of_getElem? (i := 1) rfl), (fun _ z => nomatch z)⟩)).tr ?_
    obtain ⟨b1, H⟩ := wp_g H
    cases (wp_s H)
    exact Wr.rf
theorem wr_X9_readMargin {k : Nat} {h : am_H} {a : Int32 × am_H} (e : f_X9_readMargin k h = some a) : Wr [((.inl 1), 10), ((.inl 1), 8), ((.inr k), 0)] h (a.2) := by
  have H : wp (f_X9_readMargin k h) (fun r => r = a) := ⟨a, e, rfl⟩
  unfold f_X9_readMargin at H
  rcases Decidable.em ((h.1 (.inl 1) 10 2) = 0) with c1 | c1
  · replace H := wp_t c1 H
    replace H := wp_l H
    generalize e_h1 : am_u h (.inl 1) 10 2 (iI (1)) = h1 at H
    refine Wr.u1 (List.mem_of_getElem? (i := 0) rfl) e_h1 ?_
    obtain ⟨a1, e1, H⟩ := wp_b H
    refine ((wr_X10_advance e1).mono (List.forall_mem_cons.mpr ⟨(List.mem_of_getElem? (i := 1) rfl), (fun _ z => nomatch z)⟩)).tr ?_
    obtain ⟨a2, e2, H⟩ := wp_b H
    refine ((wr_X10_takeNumber e2).mono (List.forall_mem_cons.mpr ⟨(List.mem_of_getElem? (i := 1) rfl), (fun _ z => nomatch z)⟩)).tr ?_
    rcases Decidable.em (a2.1 = 0) with c2 | c2
    · replace H := wp_t c2 H
      cases (wp_s H)
      exact Wr.rf
    · replace H := wp_f c2 H
      replace H := wp_l H
      generalize e_h2 : am_u a2.2 (.inr k) 0 5 (a2.2.1 (.inl 1) 8 5) = h2 at H
      refine Wr.u1 (List.mem_of_getElem? (i := 2) rfl) e_h2 ?_
      cases (wp_s H)
      exact Wr.rf
  · replace H := wp_f c1 H
    obtain ⟨a1, e1, H⟩ := wp_b H
    refine ((wr_X10_fail e1).mono (List.forall_mem_cons.mpr ⟨(List.mem_of_getElem? (i := 1) rfl), (fun _ z => nomatch z)⟩)).tr ?_
    obtain ⟨b1, H⟩ := wp_g H
    cases (wp_s H)
    exact Wr.rf
theorem wr_X9_readStatement {k : Nat} {h : am_H} {a : Int32 × am_H} (e : f_X9_readStatement k h = some a) : Wr [((.inl 1), 8), ((.inl 1), 10), ((.inr k), 0), ((.inr k), 16), ((.inr k), 12), ((.inr k), 13), ((.inr k), 14), ((.inr k), 15), ((.inr k), 11), ((.inr k), 10), ((.inr k), 7), ((.inr k), 8), ((.inr k), 9), ((.inr k), 6), ((.inr k), 2), ((.inr k), 3), ((.inr k), 5), ((.inr k), 4), ((.inr k), 1)] h (a.2) := by
  have H : wp (f_X9_readStatement k h) (fun r => r = a) := ⟨a, e, rfl⟩
  unfold f_X9_readStatement at H
  obtain ⟨a1, e1, H⟩ := wp_b H
  rcases Decidable.em (a1 = 0) with c1 | c1
  · replace H := wp_t c1 H
    obtain ⟨a2, e2, H⟩ := wp_b H
    rcases Decidable.em (a2 = 0) with c2 | c2
    · replace H := wp_t c2 H
      obtain ⟨a3, e3, H⟩ := wp_b H
      rcases Decidable.em (a3 = 0) with c3 | c3
      · replace H := wp_t c3 H
        obtain ⟨a4, e4, H⟩ := wp_b H
        rcases Decidable.em (a4 = 0) with c4 | c4
        · replace H := wp_t c4 H
          obtain ⟨a5, e5, H⟩ := wp_b H
          rcases Decidable.em (a5 = 0) with c5 | c5
          · replace H := wp_t c5 H
            obtain ⟨a6, e6, H⟩ := wp_b H
            rcases Decidable.em (a6 = 0) with c6 | c6
            · replace H := wp_t c6 H
              obtain ⟨a7, e7, H⟩ := wp_b H
              rcases Decidable.em (a7 = 0) with c7 | c7
              · replace H := wp_t c7 H
                obtain ⟨a8, e8, H⟩ := wp_b H
                refine ((wr_X10_fail e8).mono (List.forall_mem_cons.mpr ⟨(List.mem_of_getElem? (i := 0) rfl), (fun _ z => nomatch z)⟩)).tr ?_
                obtain ⟨b1, H⟩ := wp_g H
                cases (wp_s H)
                exact Wr.rf
              · replace H := wp_f c7 H
                obtain ⟨a8, e8, H⟩ := wp_b H
                refine ((wr_X9_readMargin e8).mono (List.forall_mem_cons.mpr ⟨(List.mem_of_getElem? (i := 1) rfl), (List.forall_mem_cons.mpr ⟨(List.mem_of_getElem? (i := 0) rfl), (List.forall_mem_cons.mpr ⟨(List.mem_of_getElem? (i := 2) rfl), (fun _ z => nomatch z)⟩)⟩)⟩)).tr ?_
                obtain ⟨b1, H⟩ := wp_g H
                cases (wp_s H)
                exact Wr.rf
            · replace H := wp_f c6 H
              obtain ⟨a7, e7, H⟩ := wp_b H
              refine ((wr_X9_readSharp e7).mono (List.forall_mem_cons.mpr ⟨(List.mem_of_getElem? (i := 1) rfl), (List.forall_mem_cons.mpr ⟨(List.mem_of_getElem? (i := 0) rfl), (List.forall_mem_cons.mpr ⟨(List.mem_of_getElem? (i := 3) rfl), (fun _ z => nomatch z)⟩)⟩)⟩)).tr ?_
              obtain ⟨b1, H⟩ := wp_g H
              cases (wp_s H)
              exact Wr.rf
          · replace H := wp_f c5 H
            obtain ⟨a6, e6, H⟩ := wp_b H
            refine ((wr_X9_readSeed e6).mono (List.forall_mem_cons.mpr ⟨(List.mem_of_getElem? (i := 1) rfl), (List.forall_mem_cons.mpr ⟨(List.mem_of_getElem? (i := 0) rfl), (List.forall_mem_cons.mpr ⟨(List.mem_of_getElem? (i := 3) rfl), (fun _ z => nomatch z)⟩)⟩)⟩)).tr ?_
            obtain ⟨b1, H⟩ := wp_g H
            cases (wp_s H)
            exact Wr.rf
        · replace H := wp_f c4 H
          obtain ⟨a5, e5, H⟩ := wp_b H
          refine ((wr_X9_readFlourish e5).mono (List.forall_mem_cons.mpr ⟨(List.mem_of_getElem? (i := 0) rfl), (List.forall_mem_cons.mpr ⟨(List.mem_of_getElem? (i := 4) rfl), (List.forall_mem_cons.mpr ⟨(List.mem_of_getElem? (i := 5) rfl), (List.forall_mem_cons.mpr ⟨(List.mem_of_getElem? (i := 6) rfl), (List.forall_mem_cons.mpr ⟨(List.mem_of_getElem? (i := 7) rfl), (List.forall_mem_cons.mpr ⟨(List.mem_of_getElem? (i := 8) rfl), (fun _ z => nomatch z)⟩)⟩)⟩)⟩)⟩)⟩)).tr ?_
          obtain ⟨b1, H⟩ := wp_g H
          cases (wp_s H)
          exact Wr.rf
      · replace H := wp_f c3 H
        obtain ⟨a4, e4, H⟩ := wp_b H
        refine ((wr_X9_readWide e4).mono (List.forall_mem_cons.mpr ⟨(List.mem_of_getElem? (i := 0) rfl), (List.forall_mem_cons.mpr ⟨(List.mem_of_getElem? (i := 9) rfl), (fun _ z => nomatch z)⟩)⟩)).tr ?_
        obtain ⟨b1, H⟩ := wp_g H
        cases (wp_s H)
        exact Wr.rf
    · replace H := wp_f c2 H
      obtain ⟨a3, e3, H⟩ := wp_b H
      refine ((wr_X9_readName e3).mono (List.forall_mem_cons.mpr ⟨(List.mem_of_getElem? (i := 0) rfl), (List.forall_mem_cons.mpr ⟨(List.mem_of_getElem? (i := 10) rfl), (List.forall_mem_cons.mpr ⟨(List.mem_of_getElem? (i := 11) rfl), (List.forall_mem_cons.mpr ⟨(List.mem_of_getElem? (i := 12) rfl), (List.forall_mem_cons.mpr ⟨(List.mem_of_getElem? (i := 13) rfl), (fun _ z => nomatch z)⟩)⟩)⟩)⟩)⟩)).tr ?_
      obtain ⟨b1, H⟩ := wp_g H
      cases (wp_s H)
      exact Wr.rf
  · replace H := wp_f c1 H
    obtain ⟨a2, e2, H⟩ := wp_b H
    refine ((wr_X9_readArc e2).mono (List.forall_mem_cons.mpr ⟨(List.mem_of_getElem? (i := 0) rfl), (List.forall_mem_cons.mpr ⟨(List.mem_of_getElem? (i := 14) rfl), (List.forall_mem_cons.mpr ⟨(List.mem_of_getElem? (i := 15) rfl), (List.forall_mem_cons.mpr ⟨(List.mem_of_getElem? (i := 16) rfl), (List.forall_mem_cons.mpr ⟨(List.mem_of_getElem? (i := 17) rfl), (List.forall_mem_cons.mpr ⟨(List.mem_of_getElem? (i := 18) rfl), (fun _ z => nomatch z)⟩)⟩)⟩)⟩)⟩)⟩)).tr ?_
    obtain ⟨b1, H⟩ := wp_g H
    cases (wp_s H)
    exact Wr.rf
theorem wr_X10_takeSign {x1 : Int32} {h : am_H} {a : Int32 × am_H} (e : f_X10_takeSign x1 h = some a) : Wr [((.inl 1), 8)] h (a.2) := by
  have H : wp (f_X10_takeSign x1 h) (fun r => r = a) := ⟨a, e, rfl⟩
  unfold f_X10_takeSign at H
  obtain ⟨a1, e1, H⟩ := wp_b H
  rcases Decidable.em (a1 = 0) with c1 | c1
  · replace H := wp_t c1 H
    obtain ⟨a2, e2, H⟩ := wp_b H
    refine ((wr_X10_fail e2).mono (List.forall_mem_cons.mpr ⟨(List.mem_of_getElem? (i := 0) rfl), (fun _ z => nomatch z)⟩)).tr ?_
    obtain ⟨b1, H⟩ := wp_g H
    cases (wp_s H)
    exact Wr.rf
  · replace H := wp_f c1 H
    obtain ⟨a2, e2, H⟩ := wp_b H
    refine ((wr_X10_advance e2).mono (List.forall_mem_cons.mpr ⟨(List.mem_of_getElem? (i := 0) rfl), (fun _ z => nomatch z)⟩)).tr ?_
    cases (wp_s H)
    exact Wr.rf
theorem wr_X9_readInto_L {k : Nat} {a : Int32 × am_H} : ∀ s, wp (lp (s_X9_readInto k) s) (fun r => r = a) → ((∀ x3 h, s = (25, [x3], [], [], h) → Wr [((.inl 1), 8), ((.inl 1), 10), ((.inr k), 0), ((.inr k), 16), ((.inr k), 12), ((.inr k), 13), ((.inr k), 14), ((.inr k), 15), ((.inr k), 11), ((.inr k), 10), ((.inr k), 7), ((.inr k), 8), ((.inr k), 9), ((.inr k), 6), ((.inr k), 2), ((.inr k), 3), ((.inr k), 5), ((.inr k), 4), ((.inr k), 1), ((.inr k), 17)] h (a.2))) := by
  refine lp_ind _ _ (fun s H => fun x3 h e => ?_)
  · subst e
    rw [s_X9_readInto] at H
    rcases Decidable.em ((iI (500)) ≤ x3) with c1 | c1
    · replace H := wp_t c1 H
      cases (lp_re H)
      exact Wr.rf
    · replace H := wp_f c1 H
      obtain ⟨a1, e1, H⟩ := wp_b H
      rcases Decidable.em (a1 = 0) with c2 | c2
      · replace H := wp_t c2 H
        obtain ⟨a2, e2, H⟩ := wp_b H
        refine ((wr_X9_readStatement e2).mono (List.forall_mem_cons.mpr ⟨(List.mem_of_getElem? (i := 0) rfl), (List.forall_mem_cons.mpr ⟨(List.mem_of_getElem? (i := 1) rfl), (List.forall_mem_cons.mpr ⟨(List.mem_of_getElem? (i := 2) rfl), (List.forall_mem_cons.mpr ⟨(List.mem_of_getElem? (i := 3) rfl), (List.forall_mem_cons.mpr ⟨(List.mem_of_getElem? (i := 4) rfl), (List.forall_mem_cons.mpr ⟨(List.mem_of_getElem? (i := 5) rfl), (List.forall_mem_cons.mpr ⟨(List.mem_of_getElem? (i := 6) rfl), (List.forall_mem_cons.mpr ⟨(List.mem_of_getElem? (i := 7) rfl), (List.forall_mem_cons.mpr ⟨(List.mem_of_getElem? (i := 8) rfl), (List.forall_mem_cons.mpr ⟨(List.mem_of_getElem? (i := 9) rfl), (List.forall_mem_cons.mpr ⟨(List.mem_of_getElem? (i := 10) rfl), (List.forall_mem_cons.mpr ⟨(List.mem_of_getElem? (i := 11) rfl), (List.forall_mem_cons.mpr ⟨(List.mem_of_getElem? (i := 12) rfl), (List.forall_mem_cons.mpr ⟨(List.mem_of_getElem? (i := 13) rfl), (List.forall_mem_cons.mpr ⟨(List.mem_of_getElem? (i := 14) rfl), (List.forall_mem_cons.mpr ⟨(List.mem_of_getElem? (i := 15) rfl), (List.forall_mem_cons.mpr ⟨(List.mem_of_getElem? (i := 16) rfl), (List.forall_mem_cons.mpr ⟨(List.mem_of_getElem? (i := 17) rfl), (List.forall_mem_cons.mpr ⟨(List.mem_of_getElem? (i := 18) rfl), (fun _ z => nomatch z)⟩)⟩)⟩)⟩)⟩)⟩)⟩)⟩)⟩)⟩)⟩)⟩)⟩)⟩)⟩)⟩)⟩)⟩)⟩)).tr ?_
        rcases Decidable.em (a2.1 = 0) with c3 | c3
        · replace H := wp_t c3 H
          cases (lp_re H)
          exact Wr.rf
        · replace H := wp_f c3 H
          obtain ⟨a3, e3, H⟩ := wp_b H
          refine ((wr_X10_takeSign e3).mono (List.forall_mem_cons.mpr ⟨(List.mem_of_getElem? (i := 0) rfl), (fun _ z => nomatch z)⟩)).tr ?_
          rcases Decidable.em (a3.1 = 0) with c4 | c4
          · replace H := wp_t c4 H
            cases (lp_re H)
            exact Wr.rf
          · replace H := wp_f c4 H
            exact (lp_in H) _ _ rfl
      · replace H := wp_f c2 H
        cases (lp_re H)
        exact Wr.rf
theorem wr_X9_readInto {k : Nat} {h : am_H} {a : Int32 × am_H} (e : f_X9_readInto k h = some a) : Wr [((.inl 1), 8), ((.inl 1), 10), ((.inr k), 0), ((.inr k), 16), ((.inr k), 12), ((.inr k), 13), ((.inr k), 14), ((.inr k), 15), ((.inr k), 11), ((.inr k), 10), ((.inr k), 7), ((.inr k), 8), ((.inr k), 9), ((.inr k), 6), ((.inr k), 2), ((.inr k), 3), ((.inr k), 5), ((.inr k), 4), ((.inr k), 1), ((.inr k), 17)] h (a.2) := by
  have H : wp (f_X9_readInto k h) (fun r => r = a) := ⟨a, e, rfl⟩
  unfold f_X9_readInto at H
  obtain ⟨a1, e1, H⟩ := wp_b H
  refine ((wr_X5_clear e1).mono (List.forall_mem_cons.mpr ⟨(List.mem_of_getElem? (i := 18) rfl), (List.forall_mem_cons.mpr ⟨(List.mem_of_getElem? (i := 9) rfl), (List.forall_mem_cons.mpr ⟨(List.mem_of_getElem? (i := 13) rfl), (List.forall_mem_cons.mpr ⟨(List.mem_of_getElem? (i := 8) rfl), (List.forall_mem_cons.mpr ⟨(List.mem_of_getElem? (i := 3) rfl), (List.forall_mem_cons.mpr ⟨(List.mem_of_getElem? (i := 19) rfl), (List.forall_mem_cons.mpr ⟨(List.mem_of_getElem? (i := 2) rfl), (fun _ z => nomatch z)⟩)⟩)⟩)⟩)⟩)⟩)⟩)).tr ?_
  replace H := wp_l H
  generalize e_h1 : am_u a1 (.inl 1) 10 0 (iI (0)) = h1 at H
  refine Wr.u1 (List.mem_of_getElem? (i := 1) rfl) e_h1 ?_
  replace H := wp_l H
  generalize e_h2 : am_u h1 (.inl 1) 10 1 (iI (0)) = h2 at H
  refine Wr.u1 (List.mem_of_getElem? (i := 1) rfl) e_h2 ?_
  replace H := wp_l H
  generalize e_h3 : am_u h2 (.inl 1) 10 2 (iI (0)) = h3 at H
  refine Wr.u1 (List.mem_of_getElem? (i := 1) rfl) e_h3 ?_
  obtain ⟨a2, e2, H⟩ := wp_b H
  refine ((wr_X10_begin e2).mono (List.forall_mem_cons.mpr ⟨(List.mem_of_getElem? (i := 0) rfl), (fun _ z => nomatch z)⟩)).tr ?_
  exact (wr_X9_readInto_L _ H) _ _ rfl
theorem wr_X10_append_L  {a : am_H} : ∀ s, wp (lp (s_X10_append) s) (fun r => r = a) → ((∀ x1 x2 h, s = (3, [x1, x2], [], [], h) → Wr [((.inl 1), 9), ((.inl 1), 8)] h (a))) := by
  refine lp_ind _ _ (fun s H => fun x1 x2 h e => ?_)
  · subst e
    rw [s_X10_append] at H
    rcases Decidable.em (x2 < 0) with c1 | c1
    · replace H := wp_t c1 H
      cases (lp_re H)
      exact Wr.rf
    · replace H := wp_f c1 H
      rcases Decidable.em ((iI (500)) ≤ (h.1 (.inl 1) 8 1)) with c2 | c2
      · replace H := wp_t c2 H
        exact (lp_in H) _ _ _ rfl
      · replace H := wp_f c2 H
        obtain ⟨b1, H⟩ := wp_g H
        replace H := wp_l H
        generalize e_h1 : am_u h (.inl 1) 9 (((h.1 (.inl 1) 8 1)).toNatClampNeg) (vp_nar .byte (((x1.toUInt32 >>> (x2.toUInt32 &&& Int32.toUInt32 31)).toInt32).toInt8.toInt32)) = h1 at H
        refine Wr.u1 (List.mem_of_getElem? (i := 0) rfl) e_h1 ?_
        replace H := wp_l H
        generalize e_h2 : am_u h1 (.inl 1) 8 1 ((h1.1 (.inl 1) 8 1) + (iI (1))) = h2 at H
        refine Wr.u1 (List.mem_of_getElem? (i := 1) rfl) e_h2 ?_
        exact (lp_in H) _ _ _ rfl
theorem wr_X10_append {x1 : Int32} {h : am_H} {a : am_H} (e : f_X10_append x1 h = some a) : Wr [((.inl 1), 9), ((.inl 1), 8)] h (a) := by
  have H : wp (f_X10_append x1 h) (fun r => r = a) := ⟨a, e, rfl⟩
  unfold f_X10_append at H
  exact (wr_X10_append_L _ H) _ _ _ rfl
theorem wr_X11_feed {x1 : Int32} {x2 : Int32} {x3 : Int32} {x4 : Int32} {x5 : Int32} {h : am_H} {a : (Int32 ⊕ Nat) × am_H} (e : f_X11_feed x1 x2 x3 x4 x5 h = some a) : Wr [((.inl 1), 9), ((.inl 1), 8)] h (a.2) := by
  have H : wp (f_X11_feed x1 x2 x3 x4 x5 h) (fun r => r = a) := ⟨a, e, rfl⟩
  unfold f_X11_feed at H
  rcases Decidable.em (((h.1 (.inl 1) 8 1) + (iI (20))) ≤ (iI (500))) with c1 | c1
  · replace H := wp_t c1 H
    obtain ⟨a1, e1, H⟩ := wp_b H
    refine ((wr_X10_append e1).mono (List.forall_mem_cons.mpr ⟨(List.mem_of_getElem? (i := 0) rfl), (List.forall_mem_cons.mpr ⟨(List.mem_of_getElem? (i := 1) rfl), (fun _ z => nomatch z)⟩)⟩)).tr ?_
    obtain ⟨a2, e2, H⟩ := wp_b H
    refine ((wr_X10_append e2).mono (List.forall_mem_cons.mpr ⟨(List.mem_of_getElem? (i := 0) rfl), (List.forall_mem_cons.mpr ⟨(List.mem_of_getElem? (i := 1) rfl), (fun _ z => nomatch z)⟩)⟩)).tr ?_
    obtain ⟨a3, e3, H⟩ := wp_b H
    refine ((wr_X10_append e3).mono (List.forall_mem_cons.mpr ⟨(List.mem_of_getElem? (i := 0) rfl), (List.forall_mem_cons.mpr ⟨(List.mem_of_getElem? (i := 1) rfl), (fun _ z => nomatch z)⟩)⟩)).tr ?_
    obtain ⟨a4, e4, H⟩ := wp_b H
    refine ((wr_X10_append e4).mono (List.forall_mem_cons.mpr ⟨(List.mem_of_getElem? (i := 0) rfl), (List.forall_mem_cons.mpr ⟨(List.mem_of_getElem? (i := 1) rfl), (fun _ z => nomatch z)⟩)⟩)).tr ?_
    obtain ⟨a5, e5, H⟩ := wp_b H
    refine ((wr_X10_append e5).mono (List.forall_mem_cons.mpr ⟨(List.mem_of_getElem? (i := 0) rfl), (List.forall_mem_cons.mpr ⟨(List.mem_of_getElem? (i := 1) rfl), (fun _ z => nomatch z)⟩)⟩)).tr ?_
    cases (wp_s H)
    exact Wr.rf
  · replace H := wp_f c1 H
    cases (wp_s H)
    exact Wr.rf
theorem wr_X11_truncate {x1 : Int32} {h : am_H} {a : (Int32 ⊕ Nat) × am_H} (e : f_X11_truncate x1 h = some a) : Wr [((.inl 1), 8)] h (a.2) := by
  have H : wp (f_X11_truncate x1 h) (fun r => r = a) := ⟨a, e, rfl⟩
  unfold f_X11_truncate at H
  obtain ⟨a1, e1, H⟩ := wp_b H
  rcases Decidable.em (a1 = 0) with c1 | c1
  · replace H := wp_t c1 H
    cases (wp_s H)
    exact Wr.rf
  · replace H := wp_f c1 H
    replace H := wp_l H
    generalize e_h1 : am_u h (.inl 1) 8 1 x1 = h1 at H
    refine Wr.u1 (List.mem_of_getElem? (i := 0) rfl) e_h1 ?_
    cases (wp_s H)
    exact Wr.rf
theorem wr_X11_readText  {h : am_H} {a : (Int32 ⊕ Nat) × am_H} (e : f_X11_readText h = some a) : Wr [((.inl 1), 8), ((.inl 1), 10), ((.inr 1), 0), ((.inr 1), 16), ((.inr 1), 12), ((.inr 1), 13), ((.inr 1), 14), ((.inr 1), 15), ((.inr 1), 11), ((.inr 1), 10), ((.inr 1), 7), ((.inr 1), 8), ((.inr 1), 9), ((.inr 1), 6), ((.inr 1), 2), ((.inr 1), 3), ((.inr 1), 5), ((.inr 1), 4), ((.inr 1), 1), ((.inr 1), 17), ((.inr 0), 2), ((.inr 0), 3), ((.inr 0), 4), ((.inr 0), 5), ((.inr 0), 1), ((.inr 0), 7), ((.inr 0), 8), ((.inr 0), 9), ((.inr 0), 10), ((.inr 0), 6), ((.inr 0), 13), ((.inr 0), 14), ((.inr 0), 15), ((.inr 0), 12), ((.inr 0), 11), ((.inr 0), 16), ((.inr 0), 18), ((.inr 0), 19), ((.inr 0), 17), ((.inr 0), 0), ((.inl 1), 0)] h (a.2) := by
  have H : wp (f_X11_readText h) (fun r => r = a) := ⟨a, e, rfl⟩
  unfold f_X11_readText at H
  obtain ⟨a1, e1, H⟩ := wp_b H
  refine ((wr_X9_readInto e1).mono (List.forall_mem_cons.mpr ⟨(List.mem_of_getElem? (i := 0) rfl), (List.forall_mem_cons.mpr ⟨(List.mem_of_getElem? (i := 1) rfl), (List.forall_mem_cons.mpr ⟨(List.mem_of_getElem? (i := 2) rfl), (List.forall_mem_cons.mpr ⟨(List.mem_of_getElem? (i := 3) rfl), (List.forall_mem_cons.mpr ⟨(List.mem_of_getElem? (i := 4) rfl), (List.forall_mem_cons.mpr ⟨(List.mem_of_getElem? (i := 5) rfl), (List.forall_mem_cons.mpr ⟨(List.mem_of_getElem? (i := 6) rfl), (List.forall_mem_cons.mpr ⟨(List.mem_of_getElem? (i := 7) rfl), (List.forall_mem_cons.mpr ⟨(List.mem_of_getElem? (i := 8) rfl), (List.forall_mem_cons.mpr ⟨(List.mem_of_getElem? (i := 9) rfl), (List.forall_mem_cons.mpr ⟨(List.mem_of_getElem? (i := 10) rfl), (List.forall_mem_cons.mpr ⟨(List.mem_of_getElem? (i := 11) rfl), (List.forall_mem_cons.mpr ⟨(List.mem_of_getElem? (i := 12) rfl), (List.forall_mem_cons.mpr ⟨(List.mem_of_getElem? (i := 13) rfl), (List.forall_mem_cons.mpr ⟨(List.mem_of_getElem? (i := 14) rfl), (List.forall_mem_cons.mpr ⟨(List.mem_of_getElem? (i := 15) rfl), (List.forall_mem_cons.mpr ⟨(List.mem_of_getElem? (i := 16) rfl), (List.forall_mem_cons.mpr ⟨(List.mem_of_getElem? (i := 17) rfl), (List.forall_mem_cons.mpr ⟨(List.mem_of_getElem? (i := 18) rfl), (List.forall_mem_cons.mpr ⟨(List.mem_of_getElem? (i := 19) rfl), (fun _ z => nomatch z)⟩)⟩)⟩)⟩)⟩)⟩)⟩)⟩)⟩)⟩)⟩)⟩)⟩)⟩)⟩)⟩)⟩)⟩)⟩)⟩)).tr ?_
  replace H := wp_l H
  generalize e_h1 : am_u a1.2 (.inl 1) 8 1 (iI (0)) = h1 at H
  refine Wr.u1 (List.mem_of_getElem? (i := 0) rfl) e_h1 ?_
  rcases Decidable.em (a1.1 = 0) with c1 | c1
  · replace H := wp_t c1 H
    cases (wp_s H)
    exact Wr.rf
  · replace H := wp_f c1 H
    obtain ⟨a2, e2, H⟩ := wp_b H
    refine ((wr_X5_copyFrom e2).mono (List.forall_mem_cons.mpr ⟨(List.mem_of_getElem? (i := 20) rfl), (List.forall_mem_cons.mpr ⟨(List.mem_of_getElem? (i := 21) rfl), (List.forall_mem_cons.mpr ⟨(List.mem_of_getElem? (i := 22) rfl), (List.forall_mem_cons.mpr ⟨(List.mem_of_getElem? (i := 23) rfl), (List.forall_mem_cons.mpr ⟨(List.mem_of_getElem? (i := 24) rfl), (List.forall_mem_cons.mpr ⟨(List.mem_of_getElem? (i := 25) rfl), (List.forall_mem_cons.mpr ⟨(List.mem_of_getElem? (i := 26) rfl), (List.forall_mem_cons.mpr ⟨(List.mem_of_getElem? (i := 27) rfl), (List.forall_mem_cons.mpr ⟨(List.mem_of_getElem? (i := 28) rfl), (List.forall_mem_cons.mpr ⟨(List.mem_of_getElem? (i := 29) rfl), (List.forall_mem_cons.mpr ⟨(List.mem_of_getElem? (i := 30) rfl), (List.forall_mem_cons.mpr ⟨(List.mem_of_getElem? (i := 31) rfl), (List.forall_mem_cons.mpr ⟨(List.mem_of_getElem? (i := 32) rfl), (List.forall_mem_cons.mpr ⟨(List.mem_of_getElem? (i := 33) rfl), (List.forall_mem_cons.mpr ⟨(List.mem_of_getElem? (i := 34) rfl), (List.forall_mem_cons.mpr ⟨(List.mem_of_getElem? (i := 35) rfl), (List.forall_mem_cons.mpr ⟨(List.mem_of_getElem? (i := 36) rfl), (List.forall_mem_cons.mpr ⟨(List.mem_of_getElem? (i := 37) rfl), (List.forall_mem_cons.mpr ⟨(List.mem_of_getElem? (i := 38) rfl), (List.forall_mem_cons.mpr ⟨(List.mem_of_getElem? (i := 39) rfl), (fun _ z => nomatch z)⟩)⟩)⟩)⟩)⟩)⟩)⟩)⟩)⟩)⟩)⟩)⟩)⟩)⟩)⟩)⟩)⟩)⟩)⟩)⟩)).tr ?_
    replace H := wp_l H
    generalize e_h2 : am_u a2 (.inl 1) 0 6 (iI (0)) = h2 at H
    refine Wr.u1 (List.mem_of_getElem? (i := 40) rfl) e_h2 ?_
    cases (wp_s H)
    exact Wr.rf
theorem wr_X11_spoiledLetters_L  {a : Int32 × am_H} : ∀ s, wp (lp (s_X11_spoiledLetters) s) (fun r => r = a) → ((∀ x1 x2 h, s = (15, [x1, x2], [], [], h) → Wr [((.inl 1), 4), ((.inl 1), 3)] h (a.2))) := by
  refine lp_ind _ _ (fun s H => fun x1 x2 h e => ?_)
  · subst e
    rw [s_X11_spoiledLetters] at H
    rcases Decidable.em ((h.1 (.inr 0) 6 4) ≤ x2) with c1 | c1
    · replace H := wp_t c1 H
      cases (lp_re H)
      exact Wr.rf
    · replace H := wp_f c1 H
      obtain ⟨a1, e1, H⟩ := wp_b H
      rcases Decidable.em (a1 = 0) with c2 | c2
      · replace H := wp_t c2 H
        exact (lp_in H) _ _ _ rfl
      · replace H := wp_f c2 H
        exact (lp_in H) _ _ _ rfl
theorem wr_X11_spoiledLetters  {h : am_H} {a : Int32 × am_H} (e : f_X11_spoiledLetters h = some a) : Wr [((.inl 1), 4), ((.inl 1), 3)] h (a.2) := by
  have H : wp (f_X11_spoiledLetters h) (fun r => r = a) := ⟨a, e, rfl⟩
  unfold f_X11_spoiledLetters at H
  obtain ⟨a1, e1, H⟩ := wp_b H
  refine ((wr_X3_measure e1).mono (List.forall_mem_cons.mpr ⟨(List.mem_of_getElem? (i := 0) rfl), (List.forall_mem_cons.mpr ⟨(List.mem_of_getElem? (i := 1) rfl), (fun _ z => nomatch z)⟩)⟩)).tr ?_
  exact (wr_X11_spoiledLetters_L _ H) _ _ _ rfl
theorem wr_X11_setting {x1 : Int32} {h : am_H} {a : (Int32 ⊕ Nat) × am_H} (e : f_X11_setting x1 h = some a) : Wr [((.inl 1), 4), ((.inl 1), 3)] h (a.2) := by
  have H : wp (f_X11_setting x1 h) (fun r => r = a) := ⟨a, e, rfl⟩
  unfold f_X11_setting at H
  rcases Decidable.em (x1.toInt = 0) with c1_0 | c1_0
  · replace H := wp_t c1_0 H
    cases (wp_s H)
    exact Wr.rf
  replace H := wp_f c1_0 H
  rcases Decidable.em (x1.toInt = 1) with c1_1 | c1_1
  · replace H := wp_t c1_1 H
    cases (wp_s H)
    exact Wr.rf
  replace H := wp_f c1_1 H
  rcases Decidable.em (x1.toInt = 2) with c1_2 | c1_2
  · replace H := wp_t c1_2 H
    cases (wp_s H)
    exact Wr.rf
  replace H := wp_f c1_2 H
  rcases Decidable.em (x1.toInt = 3) with c1_3 | c1_3
  · replace H := wp_t c1_3 H
    obtain ⟨a1, e1, H⟩ := wp_b H
    cases (wp_s H)
    exact Wr.rf
  replace H := wp_f c1_3 H
  rcases Decidable.em (x1.toInt = 4) with c1_4 | c1_4
  · replace H := wp_t c1_4 H
    obtain ⟨a1, e1, H⟩ := wp_b H
    cases (wp_s H)
    exact Wr.rf
  replace H := wp_f c1_4 H
  rcases Decidable.em (x1.toInt = 5) with c1_5 | c1_5
  · replace H := wp_t c1_5 H
    cases (wp_s H)
    exact Wr.rf
  replace H := wp_f c1_5 H
  rcases Decidable.em (x1.toInt = 6) with c1_6 | c1_6
  · replace H := wp_t c1_6 H
    cases (wp_s H)
    exact Wr.rf
  replace H := wp_f c1_6 H
  rcases Decidable.em (x1.toInt = 7) with c1_7 | c1_7
  · replace H := wp_t c1_7 H
    cases (wp_s H)
    exact Wr.rf
  replace H := wp_f c1_7 H
  rcases Decidable.em (x1.toInt = 8) with c1_8 | c1_8
  · replace H := wp_t c1_8 H
    obtain ⟨a1, e1, H⟩ := wp_b H
    cases (wp_s H)
    exact Wr.rf
  replace H := wp_f c1_8 H
  rcases Decidable.em (x1.toInt = 9) with c1_9 | c1_9
  · replace H := wp_t c1_9 H
    obtain ⟨a1, e1, H⟩ := wp_b H
    refine ((wr_X11_spoiledLetters e1).mono (List.forall_mem_cons.mpr ⟨(List.mem_of_getElem? (i := 0) rfl), (List.forall_mem_cons.mpr ⟨(List.mem_of_getElem? (i := 1) rfl), (fun _ z => nomatch z)⟩)⟩)).tr ?_
    cases (wp_s H)
    exact Wr.rf
  replace H := wp_f c1_9 H
  rcases Decidable.em (x1.toInt = 10) with c1_10 | c1_10
  · replace H := wp_t c1_10 H
    cases (wp_s H)
    exact Wr.rf
  replace H := wp_f c1_10 H
  rcases Decidable.em (x1.toInt = 11) with c1_11 | c1_11
  · replace H := wp_t c1_11 H
    cases (wp_s H)
    exact Wr.rf
  replace H := wp_f c1_11 H
  rcases Decidable.em (x1.toInt = 12) with c1_12 | c1_12
  · replace H := wp_t c1_12 H
    cases (wp_s H)
    exact Wr.rf
  replace H := wp_f c1_12 H
  rcases Decidable.em (x1.toInt = 13) with c1_13 | c1_13
  · replace H := wp_t c1_13 H
    cases (wp_s H)
    exact Wr.rf
  replace H := wp_f c1_13 H
  cases (wp_s H)
  exact Wr.rf
theorem wr_X11_isSpoiled {x1 : Int32} {h : am_H} {a : Int32 × am_H} (e : f_X11_isSpoiled x1 h = some a) : Wr [((.inl 1), 4), ((.inl 1), 3)] h (a.2) := by
  have H : wp (f_X11_isSpoiled x1 h) (fun r => r = a) := ⟨a, e, rfl⟩
  unfold f_X11_isSpoiled at H
  obtain ⟨a1, e1, H⟩ := wp_b H
  refine ((wr_X3_measure e1).mono (List.forall_mem_cons.mpr ⟨(List.mem_of_getElem? (i := 0) rfl), (List.forall_mem_cons.mpr ⟨(List.mem_of_getElem? (i := 1) rfl), (fun _ z => nomatch z)⟩)⟩)).tr ?_
  obtain ⟨a2, e2, H⟩ := wp_b H
  obtain ⟨b1, H⟩ := wp_g H
  cases (wp_s H)
  exact Wr.rf
theorem wr_X11_letter {x1 : Int32} {x2 : Int32} {h : am_H} {a : (Int32 ⊕ Nat) × am_H} (e : f_X11_letter x1 x2 h = some a) : Wr [((.inl 1), 4), ((.inl 1), 3)] h (a.2) := by
  have H : wp (f_X11_letter x1 x2 h) (fun r => r = a) := ⟨a, e, rfl⟩
  unfold f_X11_letter at H
  obtain ⟨a1, e1, H⟩ := wp_b H
  rcases Decidable.em (a1 = 0) with c1 | c1
  · replace H := wp_t c1 H
    cases (wp_s H)
    exact Wr.rf
  · replace H := wp_f c1 H
    rcases Decidable.em (x2.toInt = 0) with c2_0 | c2_0
    · replace H := wp_t c2_0 H
      obtain ⟨b1, H⟩ := wp_g H
      cases (wp_s H)
      exact Wr.rf
    replace H := wp_f c2_0 H
    rcases Decidable.em (x2.toInt = 1) with c2_1 | c2_1
    · replace H := wp_t c2_1 H
      obtain ⟨a2, e2, H⟩ := wp_b H
      cases (wp_s H)
      exact Wr.rf
    replace H := wp_f c2_1 H
    rcases Decidable.em (x2.toInt = 2) with c2_2 | c2_2
    · replace H := wp_t c2_2 H
      obtain ⟨a2, e2, H⟩ := wp_b H
      cases (wp_s H)
      exact Wr.rf
    replace H := wp_f c2_2 H
    rcases Decidable.em (x2.toInt = 3) with c2_3 | c2_3
    · replace H := wp_t c2_3 H
      obtain ⟨a2, e2, H⟩ := wp_b H
      cases (wp_s H)
      exact Wr.rf
    replace H := wp_f c2_3 H
    rcases Decidable.em (x2.toInt = 4) with c2_4 | c2_4
    · replace H := wp_t c2_4 H
      obtain ⟨a2, e2, H⟩ := wp_b H
      cases (wp_s H)
      exact Wr.rf
    replace H := wp_f c2_4 H
    rcases Decidable.em (x2.toInt = 5) with c2_5 | c2_5
    · replace H := wp_t c2_5 H
      obtain ⟨a2, e2, H⟩ := wp_b H
      cases (wp_s H)
      exact Wr.rf
    replace H := wp_f c2_5 H
    rcases Decidable.em (x2.toInt = 6) with c2_6 | c2_6
    · replace H := wp_t c2_6 H
      obtain ⟨a2, e2, H⟩ := wp_b H
      obtain ⟨a3, e3, H⟩ := wp_b H
      cases (wp_s H)
      exact Wr.rf
    replace H := wp_f c2_6 H
    rcases Decidable.em (x2.toInt = 7) with c2_7 | c2_7
    · replace H := wp_t c2_7 H
      obtain ⟨a2, e2, H⟩ := wp_b H
      cases (wp_s H)
      exact Wr.rf
    replace H := wp_f c2_7 H
    rcases Decidable.em (x2.toInt = 8) with c2_8 | c2_8
    · replace H := wp_t c2_8 H
      obtain ⟨b1, H⟩ := wp_g H
      rcases Decidable.em ((h.1 (.inr 0) 8 x1.toNatClampNeg) = 0) with c2 | c2
      · replace H := wp_t c2 H
        cases (wp_s H)
        exact Wr.rf
      · replace H := wp_f c2 H
        cases (wp_s H)
        exact Wr.rf
    replace H := wp_f c2_8 H
    rcases Decidable.em (x2.toInt = 9) with c2_9 | c2_9
    · replace H := wp_t c2_9 H
      obtain ⟨a2, e2, H⟩ := wp_b H
      refine ((wr_X11_isSpoiled e2).mono (List.forall_mem_cons.mpr ⟨(List.mem_of_getElem? (i := 0) rfl), (List.forall_mem_cons.mpr ⟨(List.mem_of_getElem? (i := 1) rfl), (fun _ z => nomatch z)⟩)⟩)).tr ?_
      rcases Decidable.em (a2.1 = 0) with c2 | c2
      · replace H := wp_t c2 H
        cases (wp_s H)
        exact Wr.rf
      · replace H := wp_f c2 H
        cases (wp_s H)
        exact Wr.rf
    replace H := wp_f c2_9 H
    rcases Decidable.em (x2.toInt = 10) with c2_10 | c2_10
    · replace H := wp_t c2_10 H
      obtain ⟨a2, e2, H⟩ := wp_b H
      cases (wp_s H)
      exact Wr.rf
    replace H := wp_f c2_10 H
    rcases Decidable.em (x2.toInt = 11) with c2_11 | c2_11
    · replace H := wp_t c2_11 H
      obtain ⟨b1, H⟩ := wp_g H
      cases (wp_s H)
      exact Wr.rf
    replace H := wp_f c2_11 H
    rcases Decidable.em (x2.toInt = 12) with c2_12 | c2_12
    · replace H := wp_t c2_12 H
      obtain ⟨a2, e2, H⟩ := wp_b H
      cases (wp_s H)
      exact Wr.rf
    replace H := wp_f c2_12 H
    cases (wp_s H)
    exact Wr.rf
theorem wr_X11_letterSpoiledBy {x1 : Int32} {h : am_H} {a : Int32 × am_H} (e : f_X11_letterSpoiledBy x1 h = some a) : Wr [((.inl 1), 4), ((.inl 1), 3)] h (a.2) := by
  have H : wp (f_X11_letterSpoiledBy x1 h) (fun r => r = a) := ⟨a, e, rfl⟩
  unfold f_X11_letterSpoiledBy at H
  obtain ⟨a1, e1, H⟩ := wp_b H
  refine ((wr_X3_measure e1).mono (List.forall_mem_cons.mpr ⟨(List.mem_of_getElem? (i := 0) rfl), (List.forall_mem_cons.mpr ⟨(List.mem_of_getElem? (i := 1) rfl), (fun _ z => nomatch z)⟩)⟩)).tr ?_
  obtain ⟨a2, e2, H⟩ := wp_b H
  cases (wp_s H)
  exact Wr.rf
theorem wr_X11_scratch {x1 : Int32} {x2 : Int32} {h : am_H} {a : (Int32 ⊕ Nat) × am_H} (e : f_X11_scratch x1 x2 h = some a) : Wr [((.inl 1), 4), ((.inl 1), 3)] h (a.2) := by
  have H : wp (f_X11_scratch x1 x2 h) (fun r => r = a) := ⟨a, e, rfl⟩
  unfold f_X11_scratch at H
  obtain ⟨a1, e1, H⟩ := wp_b H
  rcases Decidable.em (a1 = 0) with c1 | c1
  · replace H := wp_t c1 H
    cases (wp_s H)
    exact Wr.rf
  · replace H := wp_f c1 H
    rcases Decidable.em (x2.toInt = 0) with c2_0 | c2_0
    · replace H := wp_t c2_0 H
      obtain ⟨b1, H⟩ := wp_g H
      cases (wp_s H)
      exact Wr.rf
    replace H := wp_f c2_0 H
    rcases Decidable.em (x2.toInt = 1) with c2_1 | c2_1
    · replace H := wp_t c2_1 H
      obtain ⟨b1, H⟩ := wp_g H
      cases (wp_s H)
      exact Wr.rf
    replace H := wp_f c2_1 H
    rcases Decidable.em (x2.toInt = 2) with c2_2 | c2_2
    · replace H := wp_t c2_2 H
      obtain ⟨a2, e2, H⟩ := wp_b H
      refine ((wr_X11_letterSpoiledBy e2).mono (List.forall_mem_cons.mpr ⟨(List.mem_of_getElem? (i := 0) rfl), (List.forall_mem_cons.mpr ⟨(List.mem_of_getElem? (i := 1) rfl), (fun _ z => nomatch z)⟩)⟩)).tr ?_
      cases (wp_s H)
      exact Wr.rf
    replace H := wp_f c2_2 H
    cases (wp_s H)
    exact Wr.rf
theorem wr_X11_room {x1 : Int32} {h : am_H} {a : (Int32 ⊕ Nat) × am_H} (e : f_X11_room x1 h = some a) : Wr [((.inl 1), 4), ((.inl 1), 3)] h (a.2) := by
  have H : wp (f_X11_room x1 h) (fun r => r = a) := ⟨a, e, rfl⟩
  unfold f_X11_room at H
  obtain ⟨a1, e1, H⟩ := wp_b H
  rcases Decidable.em (a1 = 0) with c1 | c1
  · replace H := wp_t c1 H
    cases (wp_s H)
    exact Wr.rf
  · replace H := wp_f c1 H
    obtain ⟨a2, e2, H⟩ := wp_b H
    refine ((wr_X3_measure e2).mono (List.forall_mem_cons.mpr ⟨(List.mem_of_getElem? (i := 0) rfl), (List.forall_mem_cons.mpr ⟨(List.mem_of_getElem? (i := 1) rfl), (fun _ z => nomatch z)⟩)⟩)).tr ?_
    obtain ⟨b1, H⟩ := wp_g H
    cases (wp_s H)
    exact Wr.rf
theorem wr_X11_crowded  {h : am_H} {a : Int32 × am_H} (e : f_X11_crowded h = some a) : Wr [((.inl 1), 4), ((.inl 1), 3)] h (a.2) := by
  have H : wp (f_X11_crowded h) (fun r => r = a) := ⟨a, e, rfl⟩
  unfold f_X11_crowded at H
  obtain ⟨a1, e1, H⟩ := wp_b H
  refine ((wr_X3_measure e1).mono (List.forall_mem_cons.mpr ⟨(List.mem_of_getElem? (i := 0) rfl), (List.forall_mem_cons.mpr ⟨(List.mem_of_getElem? (i := 1) rfl), (fun _ z => nomatch z)⟩)⟩)).tr ?_
  obtain ⟨a2, e2, H⟩ := wp_b H
  cases (wp_s H)
  exact Wr.rf
theorem wr_X11_tightest  {h : am_H} {a : Int32 × am_H} (e : f_X11_tightest h = some a) : Wr [((.inl 1), 4), ((.inl 1), 3)] h (a.2) := by
  have H : wp (f_X11_tightest h) (fun r => r = a) := ⟨a, e, rfl⟩
  unfold f_X11_tightest at H
  obtain ⟨a1, e1, H⟩ := wp_b H
  refine ((wr_X3_measure e1).mono (List.forall_mem_cons.mpr ⟨(List.mem_of_getElem? (i := 0) rfl), (List.forall_mem_cons.mpr ⟨(List.mem_of_getElem? (i := 1) rfl), (fun _ z => nomatch z)⟩)⟩)).tr ?_
  obtain ⟨a2, e2, H⟩ := wp_b H
  cases (wp_s H)
  exact Wr.rf
theorem wr_X11_flourishIn {x1 : Int32} {h : am_H} {a : (Int32 ⊕ Nat) × am_H} (e : f_X11_flourishIn x1 h = some a) : Wr [((.inl 1), 7), ((.inl 1), 5), ((.inl 1), 6), ((.inl 1), 4), ((.inl 1), 3)] h (a.2) := by
  have H : wp (f_X11_flourishIn x1 h) (fun r => r = a) := ⟨a, e, rfl⟩
  unfold f_X11_flourishIn at H
  obtain ⟨a1, e1, H⟩ := wp_b H
  rcases Decidable.em (a1 = 0) with c1 | c1
  · replace H := wp_t c1 H
    cases (wp_s H)
    exact Wr.rf
  · replace H := wp_f c1 H
    obtain ⟨a2, e2, H⟩ := wp_b H
    refine ((wr_X3_fill e2).mono (List.forall_mem_cons.mpr ⟨(List.mem_of_getElem? (i := 0) rfl), (List.forall_mem_cons.mpr ⟨(List.mem_of_getElem? (i := 1) rfl), (List.forall_mem_cons.mpr ⟨(List.mem_of_getElem? (i := 2) rfl), (List.forall_mem_cons.mpr ⟨(List.mem_of_getElem? (i := 3) rfl), (List.forall_mem_cons.mpr ⟨(List.mem_of_getElem? (i := 4) rfl), (fun _ z => nomatch z)⟩)⟩)⟩)⟩)⟩)).tr ?_
    obtain ⟨b1, H⟩ := wp_g H
    cases (wp_s H)
    exact Wr.rf
theorem wr_X11_stockLeft {x1 : Int32} {h : am_H} {a : (Int32 ⊕ Nat) × am_H} (e : f_X11_stockLeft x1 h = some a) : Wr [((.inl 1), 7), ((.inl 1), 5), ((.inl 1), 6), ((.inl 1), 4), ((.inl 1), 3)] h (a.2) := by
  have H : wp (f_X11_stockLeft x1 h) (fun r => r = a) := ⟨a, e, rfl⟩
  unfold f_X11_stockLeft at H
  obtain ⟨a1, e1, H⟩ := wp_b H
  rcases Decidable.em (a1 = 0) with c1 | c1
  · replace H := wp_t c1 H
    cases (wp_s H)
    exact Wr.rf
  · replace H := wp_f c1 H
    obtain ⟨a2, e2, H⟩ := wp_b H
    refine ((wr_X3_fill e2).mono (List.forall_mem_cons.mpr ⟨(List.mem_of_getElem? (i := 0) rfl), (List.forall_mem_cons.mpr ⟨(List.mem_of_getElem? (i := 1) rfl), (List.forall_mem_cons.mpr ⟨(List.mem_of_getElem? (i := 2) rfl), (List.forall_mem_cons.mpr ⟨(List.mem_of_getElem? (i := 3) rfl), (List.forall_mem_cons.mpr ⟨(List.mem_of_getElem? (i := 4) rfl), (fun _ z => nomatch z)⟩)⟩)⟩)⟩)⟩)).tr ?_
    obtain ⟨b1, H⟩ := wp_g H
    cases (wp_s H)
    exact Wr.rf
theorem wr_X11_worth  {h : am_H} {a : Int32 × am_H} (e : f_X11_worth h = some a) : Wr [((.inl 1), 7), ((.inl 1), 5), ((.inl 1), 6), ((.inl 1), 4), ((.inl 1), 3)] h (a.2) := by
  have H : wp (f_X11_worth h) (fun r => r = a) := ⟨a, e, rfl⟩
  unfold f_X11_worth at H
  obtain ⟨a1, e1, H⟩ := wp_b H
  refine ((wr_X3_fill e1).mono (List.forall_mem_cons.mpr ⟨(List.mem_of_getElem? (i := 0) rfl), (List.forall_mem_cons.mpr ⟨(List.mem_of_getElem? (i := 1) rfl), (List.forall_mem_cons.mpr ⟨(List.mem_of_getElem? (i := 2) rfl), (List.forall_mem_cons.mpr ⟨(List.mem_of_getElem? (i := 3) rfl), (List.forall_mem_cons.mpr ⟨(List.mem_of_getElem? (i := 4) rfl), (fun _ z => nomatch z)⟩)⟩)⟩)⟩)⟩)).tr ?_
  obtain ⟨a2, e2, H⟩ := wp_b H
  cases (wp_s H)
  exact Wr.rf
theorem wr_X11_slipsWith {x1 : Int32} {h : am_H} {a : Int32 × am_H} (e : f_X11_slipsWith x1 h = some a) : Wr [((.inl 1), 2)] h (a.2) := by
  have H : wp (f_X11_slipsWith x1 h) (fun r => r = a) := ⟨a, e, rfl⟩
  unfold f_X11_slipsWith at H
  obtain ⟨a1, e1, H⟩ := wp_b H
  refine ((wr_X1_copyFrom e1).mono (List.forall_mem_cons.mpr ⟨(List.mem_of_getElem? (i := 0) rfl), (fun _ z => nomatch z)⟩)).tr ?_
  replace H := wp_l H
  generalize e_h1 : am_u a1 (.inl 1) 2 0 x1 = h1 at H
  refine Wr.u1 (List.mem_of_getElem? (i := 0) rfl) e_h1 ?_
  obtain ⟨a2, e2, H⟩ := wp_b H
  refine ((wr_X5_slipsBy e2).mono (List.forall_mem_cons.mpr ⟨(List.mem_of_getElem? (i := 0) rfl), (fun _ z => nomatch z)⟩)).tr ?_
  cases (wp_s H)
  exact Wr.rf
theorem wr_X11_slipsIf  {h : am_H} {a : Int32 × am_H} (e : f_X11_slipsIf h = some a) : Wr [((.inl 1), 2)] h (a.2) := by
  have H : wp (f_X11_slipsIf h) (fun r => r = a) := ⟨a, e, rfl⟩
  unfold f_X11_slipsIf at H
  obtain ⟨a1, e1, H⟩ := wp_b H
  refine ((wr_X11_slipsWith e1).mono (List.forall_mem_cons.mpr ⟨(List.mem_of_getElem? (i := 0) rfl), (fun _ z => nomatch z)⟩)).tr ?_
  cases (wp_s H)
  exact Wr.rf
theorem wr_X11_leastSharp_L  {a : Int32 × am_H} : ∀ s, wp (lp (s_X11_leastSharp) s) (fun r => r = a) → ((∀ x1 h, s = (2, [x1], [], [], h) → Wr [((.inl 1), 2)] h (a.2))) := by
  refine lp_ind _ _ (fun s H => fun x1 h e => ?_)
  · subst e
    rw [s_X11_leastSharp] at H
    rcases Decidable.em ((iI (99)) < x1) with c1 | c1
    · replace H := wp_t c1 H
      cases (lp_re H)
      exact Wr.rf
    · replace H := wp_f c1 H
      obtain ⟨a1, e1, H⟩ := wp_b H
      refine ((wr_X11_slipsWith e1).mono (List.forall_mem_cons.mpr ⟨(List.mem_of_getElem? (i := 0) rfl), (fun _ z => nomatch z)⟩)).tr ?_
      rcases Decidable.em (a1.1 = 0) with c2 | c2
      · replace H := wp_t c2 H
        cases (lp_re H)
        exact Wr.rf
      · replace H := wp_f c2 H
        exact (lp_in H) _ _ rfl
theorem wr_X11_leastSharp  {h : am_H} {a : Int32 × am_H} (e : f_X11_leastSharp h = some a) : Wr [((.inl 1), 2)] h (a.2) := by
  have H : wp (f_X11_leastSharp h) (fun r => r = a) := ⟨a, e, rfl⟩
  unfold f_X11_leastSharp at H
  exact (wr_X11_leastSharp_L _ H) _ _ rfl
theorem wr_X11_undo  {h : am_H} {a : Int32 × am_H} (e : f_X11_undo h = some a) : Wr [((.inl 1), 0), ((.inr 0), 2), ((.inr 0), 3), ((.inr 0), 4), ((.inr 0), 5), ((.inr 0), 1), ((.inr 0), 7), ((.inr 0), 8), ((.inr 0), 9), ((.inr 0), 10), ((.inr 0), 6), ((.inr 0), 13), ((.inr 0), 14), ((.inr 0), 15), ((.inr 0), 12), ((.inr 0), 11), ((.inr 0), 16), ((.inr 0), 18), ((.inr 0), 19), ((.inr 0), 17), ((.inr 0), 0)] h (a.2) := by
  have H : wp (f_X11_undo h) (fun r => r = a) := ⟨a, e, rfl⟩
  unfold f_X11_undo at H
  rcases Decidable.em (0 < (h.1 (.inl 1) 0 6)) with c1 | c1
  · replace H := wp_t c1 H
    replace H := wp_l H
    generalize e_h1 : am_u h (.inl 1) 0 6 ((h.1 (.inl 1) 0 6) - (iI (1))) = h1 at H
    refine Wr.u1 (List.mem_of_getElem? (i := 0) rfl) e_h1 ?_
    obtain ⟨b1, H⟩ := wp_g H
    obtain ⟨b2, H⟩ := wp_g H
    obtain ⟨a1, e1, H⟩ := wp_b H
    refine ((wr_X5_copyFrom e1).mono (List.forall_mem_cons.mpr ⟨(List.mem_of_getElem? (i := 1) rfl), (List.forall_mem_cons.mpr ⟨(List.mem_of_getElem? (i := 2) rfl), (List.forall_mem_cons.mpr ⟨(List.mem_of_getElem? (i := 3) rfl), (List.forall_mem_cons.mpr ⟨(List.mem_of_getElem? (i := 4) rfl), (List.forall_mem_cons.mpr ⟨(List.mem_of_getElem? (i := 5) rfl), (List.forall_mem_cons.mpr ⟨(List.mem_of_getElem? (i := 6) rfl), (List.forall_mem_cons.mpr ⟨(List.mem_of_getElem? (i := 7) rfl), (List.forall_mem_cons.mpr ⟨(List.mem_of_getElem? (i := 8) rfl), (List.forall_mem_cons.mpr ⟨(List.mem_of_getElem? (i := 9) rfl), (List.forall_mem_cons.mpr ⟨(List.mem_of_getElem? (i := 10) rfl), (List.forall_mem_cons.mpr ⟨(List.mem_of_getElem? (i := 11) rfl), (List.forall_mem_cons.mpr ⟨(List.mem_of_getElem? (i := 12) rfl), (List.forall_mem_cons.mpr ⟨(List.mem_of_getElem? (i := 13) rfl), (List.forall_mem_cons.mpr ⟨(List.mem_of_getElem? (i := 14) rfl), (List.forall_mem_cons.mpr ⟨(List.mem_of_getElem? (i := 15) rfl), (List.forall_mem_cons.mpr ⟨(List.mem_of_getElem? (i := 16) rfl), (List.forall_mem_cons.mpr ⟨(List.mem_of_getElem? (i := 17) rfl), (List.forall_mem_cons.mpr ⟨(List.mem_of_getElem? (i := 18) rfl), (List.forall_mem_cons.mpr ⟨(List.mem_of_getElem? (i := 19) rfl), (List.forall_mem_cons.mpr ⟨(List.mem_of_getElem? (i := 20) rfl), (fun _ z => nomatch z)⟩)⟩)⟩)⟩)⟩)⟩)⟩)⟩)⟩)⟩)⟩)⟩)⟩)⟩)⟩)⟩)⟩)⟩)⟩)⟩)).tr ?_
    cases (wp_s H)
    exact Wr.rf
  · replace H := wp_f c1 H
    cases (wp_s H)
    exact Wr.rf
