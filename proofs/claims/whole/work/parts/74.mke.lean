/-! the reference keeps for undo -/
section MKE
variable {h : am_H} {st : St}
theorem m_laysAside (h : am_H) : ∃ h', f_X12_laysAside h = some h' ∧ (∀ j, j < 408 → h'.1 (.inl 0) 4 j = h.1 (.inl 0) 2 j) ∧ Wr [(.inl 0, 4)] h h' := by
  obtain ⟨h', e, r, -⟩ := m_copiesRow (h := h) (o0 := 2) (n0 := 408) (o2 := 4) (n2 := 408) (a := 0) (b := 0) (by omega) (by omega) (by omega) (by omega) (by omega)
  have e9 : f_X12_laysAside h = some h' := by
    unfold f_X12_laysAside
    have e' : f_X12_copiesRow 2 408 (iI (0)) 4 408 (iI (0)) h = some h' := e
    rw [e', Option.bind_some]
  exact ⟨h', e9, fun j hj => by have := r j hj; rw [Nat.zero_add] at this; exact this, wr_X12_laysAside e9⟩
theorem m_keeps55 {n : Nat} (hn : n < 6) (R : h.1 (.inl 0) 0 21 = iI n) : ∃ h', f_X12_keeps_55 h = some h' ∧ h'.1 (.inl 0) 0 21 = iI ((n + 1 : Nat) : Int) ∧ (∀ j, j < 408 → h'.1 (.inl 0) 6 (408 * n + j) = h.1 (.inl 0) 4 j) ∧ (∀ j, j < 408 * n → h'.1 (.inl 0) 6 j = h.1 (.inl 0) 6 j) ∧ (∀ j, j ≠ 21 → h'.1 (.inl 0) 0 j = h.1 (.inl 0) 0 j) ∧ Wr [(.inl 0, 6), (.inl 0, 0)] h h' := by
  obtain ⟨h1, e, r1, r2⟩ := m_copiesRow (h := h) (o0 := 4) (n0 := 408) (o2 := 6) (n2 := 2448) (a := 0) (b := 408 * n) (by omega) (by omega) (by omega) (by omega) (by omega)
  have w1 := wr_X12_copiesRow e
  have k0 : h1.1 (.inl 0) 0 = h.1 (.inl 0) 0 := w1.1 _ _ (by simp)
  have e' : f_X12_copiesRow 4 408 (iI 0) 6 2448 (iI (408 * (n : Int))) h = some h1 := by
    rw [show 408 * (n : Int) = ((408 * n : Nat) : Int) by omega]; exact e
  refine ⟨am_u h1 (.inl 0) 0 21 (iI ((n : Int) + 1)), ?_, ?_, fun j hj => ?_, fun j hj => ?_, fun j hj => ?_, (w1.mono (by simp)).tr (Wr.u (by simp))⟩
  · rw [e_X12_keeps_55]
    simp (disch := omega) only [xI_le, xI_lt, xI_eq, xI_0, xI_ib, if_pos, if_neg, if_true, if_false, xI_cl, Int.toNat_natCast, iI_m, iI_a, iI_s, iI_1, xI_n, Option.bind_some, Int.natCast_add, Int.natCast_one, xI_zb, if_bI0, if_bI1, xI_rn, xI_ti, R, e', k0, am_lt]
  · rw [au_s, if_pos rfl]; rfl
  · rw [am_u_row (by simp), r1 j hj, Nat.zero_add]
  · rw [am_u_row (by simp), r2 j (by omega)]
  · rw [au_s, if_neg hj, k0]
theorem m_keepsShift (R : h.1 (.inl 0) 0 21 = iI 5) : ∃ s, f_X12_keeps_21 (iI 0) h = f_X12_keeps_55 s ∧ (∀ j, j < 2040 → s.1 (.inl 0) 6 j = h.1 (.inl 0) 6 (j + 408)) ∧ Wr [(.inl 0, 6)] h s := by
  obtain ⟨s, e1, p1, p2, p3⟩ := ch_rel (fun i s => f_X12_keeps_21 (iI i) s) (fun i s => (∀ j, j < i → s.1 (.inl 0) 6 j = h.1 (.inl 0) 6 (j + 408)) ∧ (∀ j, i ≤ j → s.1 (.inl 0) 6 j = h.1 (.inl 0) 6 j) ∧ Wr [(.inl 0, 6)] h s) (n := 2040) (fun i s hi hs => by
    obtain ⟨p1, p2, p3⟩ := hs
    have k0 : s.1 (.inl 0) 0 = h.1 (.inl 0) 0 := p3.1 _ _ (by simp)
    refine ⟨am_u s (.inl 0) 6 i (h.1 (.inl 0) 6 (i + 408)), ?_, fun j hj => ?_, fun j hj => ?_, p3.tr (Wr.u (by simp))⟩
    · show f_X12_keeps_21 _ _ = f_X12_keeps_21 _ _
      rw [e_X12_keeps_21]
      simp (disch := omega) only [xI_le, xI_lt, xI_eq, xI_0, xI_ib, if_pos, if_neg, if_true, if_false, xI_cl, Int.toNat_natCast, iI_m, iI_a, iI_s, iI_1, xI_n, Option.bind_some, Int.natCast_add, Int.natCast_one, xI_zb, if_bI0, if_bI1, xI_rn, xI_ti, k0, R, show ((i : Int) + 408).toNat = i + 408 from by omega, p2 (i + 408) (by omega), am_lt]
    · rw [au_s]
      by_cases c : j = i
      · rw [if_pos c, c]
      · rw [if_neg c]; exact p1 j (by omega)
    · rw [au_s, if_neg (by omega)]; exact p2 j (by omega)) (s0 := h) ⟨fun j hj => absurd hj (Nat.not_lt_zero j), fun j _ => rfl, Wr.rf⟩
  refine ⟨s, Eq.trans e1 ?_, p1, p3⟩
  show f_X12_keeps_21 _ _ = _
  have k0 : s.1 (.inl 0) 0 = h.1 (.inl 0) 0 := p3.1 _ _ (by simp)
  rw [e_X12_keeps_21]
  simp (disch := omega) only [xI_le, xI_lt, xI_eq, xI_0, xI_ib, if_pos, if_neg, if_true, if_false, xI_cl, Int.toNat_natCast, iI_m, iI_a, iI_s, iI_1, xI_n, Option.bind_some, Int.natCast_add, Int.natCast_one, xI_zb, if_bI0, if_bI1, xI_rn, xI_ti, k0, R]
theorem mo_keep {v : pv_T} (ok : Ok st) (R : MoR h (setPl st v)) (R4 : mo_rw (h.1 (.inl 0) 4) st.1) : ∃ h', f_X12_keeps h = some h' ∧ MoR h' (setPl (stK st) v) ∧ CFr h h' ∧ h'.1 (.inl 0) 0 0 = h.1 (.inl 0) 0 0 := by
  obtain ⟨⟨r1, r1n⟩, r2, ⟨r3, r4⟩, r5, r6, r7⟩ := R
  have o6 := ok.2.2.1.1
  have fin : ∀ {h' : am_H}, Wr [(.inl 0, 6), (.inl 0, 0)] h h' → (∀ j, j ≠ 21 → h'.1 (.inl 0) 0 j = h.1 (.inl 0) 0 j) → (h'.1 (.inl 0) 0 21 = iI (pushP st).1 ∧ ∀ i, i < (pushP st).1 → mo_rw (fun j => h'.1 (.inl 0) 6 (408 * i + j)) ((pushP st).2 i)) → MoR h' (setPl (stK st) v) := fun {h'} w kj kp => by
    have k : ∀ o, o ≠ 6 → o ≠ 0 → h'.1 (.inl 0) o = h.1 (.inl 0) o := fun o h6 h0 => w.1 _ _ (by simp; exact ⟨h6, h0⟩)
    have kl : ∀ o, o ≠ 6 → o ≠ 0 → h'.2.1 (.inl 0) o = h.2.1 (.inl 0) o := fun o h6 h0 => w.2.1 _ _ (by simp; exact ⟨h6, h0⟩)
    unfold MoR mo_pl mo_nm at *
    rw [k 1 (by omega) (by omega), k 2 (by omega) (by omega), k 3 (by omega) (by omega), k 17 (by omega) (by omega), kl 7 (by omega) (by omega), kl 8 (by omega) (by omega), kj 22 (by omega), kj 2 (by omega), kj 10 (by omega), kj 11 (by omega), kj 36 (by omega), kj 35 (by omega)]
    exact ⟨⟨r1, r1n⟩, r2, kp, r5, r6, r7⟩
  by_cases c : st.2.2.1.1 < 6
  · have hp : pushP st = (st.2.2.1.1 + 1, fun i => if i = st.2.2.1.1 then st.1 else st.2.2.1.2 i) := if_pos c
    have r3' : h.1 (.inl 0) 0 21 = iI st.2.2.1.1 := r3
    obtain ⟨h', e, a1, a2, a3, a4, w⟩ := m_keeps55 c r3'
    refine ⟨h', ?_, fin w a4 ?_, w.CF rfl, a4 0 (by omega)⟩
    · unfold f_X12_keeps
      simp (disch := omega) only [xI_le, xI_lt, xI_eq, xI_0, xI_ib, if_pos, if_neg, if_true, if_false, xI_cl, Int.toNat_natCast, iI_m, iI_a, iI_s, iI_1, xI_n, Option.bind_some, Int.natCast_add, Int.natCast_one, xI_zb, if_bI0, if_bI1, xI_rn, xI_ti, r3', e]
    · rw [hp]
      refine ⟨a1, fun i hi => ?_⟩
      have hi' : i < st.2.2.1.1 + 1 := hi
      show mo_rw _ (if i = st.2.2.1.1 then st.1 else st.2.2.1.2 i)
      by_cases d : i = st.2.2.1.1
      · rw [if_pos d, d]
        exact R4.e408 ok.1.1 (fun j hj => a2 j hj)
      · rw [if_neg d]
        exact (r4 i (show i < st.2.2.1.1 by omega)).e408 (ok.2.2.1.2 i (by omega)).1.1 (fun j hj => a3 _ (by omega))
  · have hs : st.2.2.1.1 = 6 := by omega
    have hp : pushP st = (6, fun i => if i = 5 then st.1 else st.2.2.1.2 (i + 1)) := if_neg c
    have r3' : h.1 (.inl 0) 0 21 = iI 6 := by
      have : h.1 (.inl 0) 0 21 = iI st.2.2.1.1 := r3
      rw [this, hs]; rfl
    obtain ⟨s, e0, b1, w0⟩ := m_keepsShift (h := am_u h (.inl 0) 0 21 (iI 5)) (by rw [au_s, if_pos rfl])
    have k0 : s.1 (.inl 0) 0 = (am_u h (.inl 0) 0 21 (iI 5)).1 (.inl 0) 0 := w0.1 _ _ (by simp)
    obtain ⟨h', e, a1, a2, a3, a4, w⟩ := m_keeps55 (h := s) (n := 5) (by omega) (by rw [k0, au_s, if_pos rfl]; rfl)
    have wa : Wr [(.inl 0, 6), (.inl 0, 0)] h h' := (Wr.u (by simp)).tr ((w0.mono (by simp)).tr w)
    have kj : ∀ j, j ≠ 21 → h'.1 (.inl 0) 0 j = h.1 (.inl 0) 0 j := fun j hj => by rw [a4 j hj, k0, au_s, if_neg hj]
    refine ⟨h', ?_, fin wa kj ?_, wa.CF rfl, kj 0 (by omega)⟩
    · unfold f_X12_keeps
      simp (disch := omega) only [xI_le, xI_lt, xI_eq, xI_0, xI_ib, if_pos, if_neg, if_true, if_false, xI_cl, Int.toNat_natCast, iI_m, iI_a, iI_s, iI_1, xI_n, Option.bind_some, Int.natCast_add, Int.natCast_one, xI_zb, if_bI0, if_bI1, xI_rn, xI_ti, r3', am_lt]
      exact e0.trans e
    · rw [hp]
      refine ⟨a1, fun i hi => ?_⟩
      have hi' : i < 6 := hi
      show mo_rw _ (if i = 5 then st.1 else st.2.2.1.2 (i + 1))
      by_cases d : i = 5
      · rw [if_pos d, d]
        refine R4.e408 ok.1.1 (fun j hj => ?_)
        rw [a2 j hj, w0.1 _ _ (by simp), am_u_row (by simp)]
      · rw [if_neg d]
        refine (r4 (i + 1) (show i + 1 < st.2.2.1.1 by omega)).e408 (ok.2.2.1.2 (i + 1) (by omega)).1.1 (fun j hj => ?_)
        show h'.1 (.inl 0) 6 (408 * i + j) = h.1 (.inl 0) 6 (408 * (i + 1) + j)
        rw [a3 _ (by omega), b1 _ (by omega), am_u_row (by simp), show 408 * i + j + 408 = 408 * (i + 1) + j by omega]
/-- a change of the plate on each side -/
theorem ClR.pl0 {h' : am_H} {v : pv_T} {L : List (am_G × Nat)} (w : Wr L h h') (n : ∀ x ∈ L, x.1 = .inr 0) (P : cl_pl h' 0 v) (R : ClR h st) : ClR h' (setPl st v) := by
  have e1 : ∀ o, h'.1 (.inl 1) o = h.1 (.inl 1) o := fun o => w.1 _ _ (fun z => by have := n _ z; cases this)
  have ek : ∀ k, k ≠ 0 → ∀ o, h'.1 (.inr k) o = h.1 (.inr k) o := fun k hk o => w.1 _ _ (fun z => by have := n _ z; cases this; exact hk rfl)
  obtain ⟨r1, ⟨r2, r3⟩, ⟨r4, r5, r6, r7⟩, ⟨r8, r9⟩, ⟨r10, r11⟩, r12, r13⟩ := R
  exact ⟨P, ⟨by rw [e1]; exact r2, fun z => (r3 z).eq (ek 3 (by omega))⟩, ⟨by rw [e1]; exact r4, by rw [w.2.2]; exact r5, by rw [w.2.2]; exact r6, fun i c hi => by rw [w.2.2]; exact (r7 i c hi).eq (ek _ (by have := (r5 i c).1; omega))⟩, ⟨by rw [e1]; exact r8, by rw [e1]; exact r9⟩, ⟨by rw [e1]; exact r10, by rw [e1]; exact r11⟩, by rw [e1]; exact r12, by rw [e1]; exact r13⟩
theorem MoR.pl2 {h' : am_H} {v : pv_T} (w : Wr [(.inl 0, 2)] h h') (P : mo_pl h' v) (hk : sameK st.1 v) (R : MoR h st) : MoR h' (setPl st v) := by
  obtain ⟨⟨r1, r1n⟩, r2⟩ := R
  have k : ∀ o, o ≠ 2 → h'.1 (.inl 0) o = h.1 (.inl 0) o := fun o h2 => w.1 _ _ (by simp; exact h2)
  have kl : ∀ o, o ≠ 2 → h'.2.1 (.inl 0) o = h.2.1 (.inl 0) o := fun o h2 => w.2.1 _ _ (by simp; exact h2)
  refine ⟨⟨P, fun q hq => ?_⟩, ?_⟩
  · have hq' : q < v.1 2 := hq
    rw [hk.1] at hq'
    rw [kl 7 (by omega), r1n q hq']
    show _ = lN (pkN (nmf v q) 8)
    rw [hk.2 q hq']
  · unfold mo_nm at *
    rw [k 0 (by omega), k 1 (by omega), k 3 (by omega), k 6 (by omega), k 17 (by omega), kl 8 (by omega)]
    exact r2
theorem clC_ch {call : am_H → Option ((Int32 ⊕ Nat) × am_H)} {h1 h2 : am_H} {v : pv_T} {x : Int32} {L : List (am_G × Nat)} (C1 : ClR h1 (stK st)) (M1 : MFr h h1) (w : Wr L h1 h2) (n : ∀ x ∈ L, x.1 = .inr 0) (P : cl_pl h2 0 v) (e : call h = some (.inl x, h2)) : clC call h (setPl (stK st) v) (.inl x) := ⟨h2, e, ClR.pl0 w n P C1, M1.tr ⟨fun o => w.1 _ _ (fun z => by have := n _ z; cases this), fun o => w.2.1 _ _ (fun z => by have := n _ z; cases this)⟩⟩
end MKE
