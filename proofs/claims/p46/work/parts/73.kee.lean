/-! what can be undone, kept: both sides -/
def setPl (st : St) (v : pv_T) : St := (v, st.2)
def pushP (st : St) : Nat × (Nat → pv_T) := if st.2.2.1.1 < 6 then (st.2.2.1.1 + 1, fun i => if i = st.2.2.1.1 then st.1 else st.2.2.1.2 i) else (6, fun i => if i = 5 then st.1 else st.2.2.1.2 (i + 1))
def stK (st : St) : St := (st.1, st.2.1, pushP st, st.2.2.2)
theorem stK_ok {st : St} (ok : Ok st) : Ok (stK st) := by
  obtain ⟨o1, o2, ⟨o3, o4⟩, o5⟩ := ok
  refine ⟨o1, o2, ?_, o5⟩
  show (pushP st).1 ≤ 6 ∧ ∀ i, i < (pushP st).1 → pvA ((pushP st).2 i) ∧ sameK st.1 ((pushP st).2 i)
  unfold pushP
  by_cases c : st.2.2.1.1 < 6
  · rw [if_pos c]
    refine ⟨c, fun i hi => ?_⟩
    have hi' : i < st.2.2.1.1 + 1 := hi
    show pvA (if i = st.2.2.1.1 then st.1 else st.2.2.1.2 i) ∧ sameK st.1 (if i = st.2.2.1.1 then st.1 else st.2.2.1.2 i)
    by_cases d : i = st.2.2.1.1
    · rw [if_pos d]; exact ⟨o1, rfl, fun _ _ => rfl⟩
    · rw [if_neg d]; exact o4 i (by omega)
  · rw [if_neg c]
    refine ⟨Nat.le_refl 6, fun i hi => ?_⟩
    have hi' : i < 6 := hi
    show pvA (if i = 5 then st.1 else st.2.2.1.2 (i + 1)) ∧ sameK st.1 (if i = 5 then st.1 else st.2.2.1.2 (i + 1))
    by_cases d : i = 5
    · rw [if_pos d]; exact ⟨o1, rfl, fun _ _ => rfl⟩
    · rw [if_neg d]; exact o4 (i + 1) (by omega)
theorem sameK.tr2 {u v w : pv_T} (a : sameK u v) (b : sameK u w) : sameK v w := by
  refine ⟨b.1.trans a.1.symm, fun q hq => ?_⟩
  rw [a.1] at hq
  exact (b.2 q hq).trans (a.2 q hq).symm
theorem setPl_ok {st : St} {v : pv_T} (ok : Ok st) (hv : pvA v) (hk : sameK st.1 v) : Ok (setPl st v) := ⟨hv, ok.2.1, ⟨ok.2.2.1.1, fun i hi => ⟨(ok.2.2.1.2 i hi).1, hk.tr2 (ok.2.2.1.2 i hi).2⟩⟩, ok.2.2.2⟩
section KEE
variable {h : am_H} {st : St}
theorem k_keep56 (ok : Ok st) {n : Nat} {f : Nat → pv_T} (hn : n < 6) (R1 : cl_pl h 0 st.1) (R2 : h.1 (.inl 1) 0 6 = iI n) (R3 : ∀ i, i < 6 → 4 ≤ h.2.2 i ∧ h.2.2 i < 10) (R4 : ∀ i j, i < 6 → j < 6 → h.2.2 i = h.2.2 j → i = j) (R5 : ∀ i, i < 6 → i < n → cl_pl h (h.2.2 i) (f i)) : ∃ h', f_X11_keepForUndo_56 h = some h' ∧ h'.1 (.inl 1) 0 6 = iI ((n + 1 : Nat) : Int) ∧ h'.2.2 = h.2.2 ∧ (∀ i, i < 6 → i < n + 1 → cl_pl h' (h'.2.2 i) (if i = n then st.1 else f i)) ∧ (∀ k, k < 4 → ∀ o, h'.1 (.inr k) o = h.1 (.inr k) o) ∧ (∀ o, o ≠ 0 → h'.1 (.inl 1) o = h.1 (.inl 1) o) ∧ (∀ j, j ≠ 6 → h'.1 (.inl 1) 0 j = h.1 (.inl 1) 0 j) ∧ MFr h h' := by
  obtain ⟨p4, p10⟩ := R3 n hn
  obtain ⟨h1, e1, P1⟩ := k_copyPl (k := h.2.2 n) (k2 := 0) (by omega) ok.1.1 R1
  have w1 := wr_X5_copyFrom e1
  have ko : ∀ k, k ≠ h.2.2 n → ∀ o, h1.1 (.inr k) o = h.1 (.inr k) o := fun k hk => w1.P (by simp; exact fun z => hk z.symm)
  have kl : ∀ o, h1.1 (.inl 1) o = h.1 (.inl 1) o := fun o => w1.1 _ _ (by simp)
  refine ⟨am_u h1 (.inl 1) 0 6 (iI ((n : Int) + 1)), ?_, ?_, ?_, fun i hi hin => ?_, fun k hk o => ?_, fun o ho => ?_, fun j hj => ?_, ?_⟩
  · rw [e_X11_keepForUndo_56]
    simp (disch := omega) only [xI_le, xI_lt, xI_eq, xI_0, xI_ib, if_pos, if_neg, if_true, if_false, xI_cl, Int.toNat_natCast, iI_m, iI_a, iI_s, iI_1, xI_n, Option.bind_some, Int.natCast_add, Int.natCast_one, xI_zb, if_bI0, if_bI1, xI_rn, xI_ti, R2, e1, kl, am_lt]
  · rw [au_s, if_pos rfl]; rfl
  · show h1.2.2 = h.2.2; exact w1.2.2
  · show cl_pl _ (h1.2.2 i) _
    rw [w1.2.2]
    by_cases c : i = n
    · rw [if_pos c, c]
      exact P1.eq (fun o => am_u_row (by simp))
    · rw [if_neg c]
      have hne : h.2.2 i ≠ h.2.2 n := fun z => c (R4 i n hi hn z)
      exact (R5 i hi (by omega)).eq (fun o => by rw [am_u_row (by simp), ko _ hne])
  · rw [am_u_row (by simp), ko k (by omega)]
  · rw [am_u_row (by simp; exact ho), kl]
  · rw [au_s, if_neg hj, kl]
  · exact (w1.MF rfl).tr ((Wr.u (L := [(.inl 1, 0)]) (by simp)).MF rfl)
theorem k_rot {m : Nat} (hm : m = h.2.2 0) (R3 : ∀ i, i < 6 → 4 ≤ h.2.2 i ∧ h.2.2 i < 10) : ∃ s, f_X11_keepForUndo_18 m (iI 1) h = f_X11_keepForUndo_56 s ∧ s.2.2 = (fun i => if i < 5 then h.2.2 (i + 1) else if i = 5 then m else h.2.2 i) ∧ (∀ g o, ¬ (g = .inl 1 ∧ o = 0) → s.1 g o = h.1 g o) ∧ s.2.1 = h.2.1 ∧ s.1 (.inl 1) 0 6 = iI 5 ∧ (∀ j, j ≠ 6 → s.1 (.inl 1) 0 j = h.1 (.inl 1) 0 j) := by
  have hm4 := R3 0 (by omega)
  obtain ⟨s, e1, p1, p2, p3⟩ := ch_rel (fun i s => f_X11_keepForUndo_18 m (iI ((i : Int) + 1)) s) (fun i s => s.2.2 = (fun j => if j < i then h.2.2 (j + 1) else h.2.2 j) ∧ s.1 = h.1 ∧ s.2.1 = h.2.1) (n := 5) (fun i s hi hs => by
    obtain ⟨p1, p2, p3⟩ := hs
    have hq := R3 (i + 1) (by omega)
    have eq1 : s.2.2 (i + 1) = h.2.2 (i + 1) := by rw [p1]; exact if_neg (by omega)
    refine ⟨am_up s i (h.2.2 (i + 1)), ?_, ?_, p2, p3⟩
    · show f_X11_keepForUndo_18 _ _ _ = f_X11_keepForUndo_18 _ _ _
      rw [e_X11_keepForUndo_18]
      simp (disch := omega) only [xI_le, xI_lt, xI_eq, xI_0, xI_ib, if_pos, if_neg, if_true, if_false, xI_cl, Int.toNat_natCast, iI_m, iI_a, iI_s, iI_1, xI_n, Option.bind_some, Int.natCast_add, Int.natCast_one, xI_zb, if_bI0, if_bI1, xI_rn, xI_ti, am_lt, show ((i : Int) + 1).toNat = i + 1 from by omega, show ((i : Int) + 1 - 1).toNat = i from by omega, eq1]
    · funext j
      show (if j = i then h.2.2 (i + 1) else s.2.2 j) = (if j < i + 1 then h.2.2 (j + 1) else h.2.2 j)
      rw [p1]
      by_cases c : j = i
      · rw [if_pos c, if_pos (by omega), c]
      · rw [if_neg c]
        show (if j < i then h.2.2 (j + 1) else h.2.2 j) = _
        by_cases d : j < i
        · rw [if_pos d, if_pos (by omega)]
        · rw [if_neg d, if_neg (by omega)]) (s0 := h) ⟨by funext j; exact (if_neg (Nat.not_lt_zero j)).symm, rfl, rfl⟩
  refine ⟨am_u (am_up s 5 m) (.inl 1) 0 6 (iI 5), ?_, ?_, fun g o hg => ?_, ?_, ?_, fun j hj => ?_⟩
  · refine Eq.trans e1 ?_
    show f_X11_keepForUndo_18 _ _ _ = _
    rw [e_X11_keepForUndo_18]
    simp (disch := omega) only [xI_le, xI_lt, xI_eq, xI_0, xI_ib, if_pos, if_neg, if_true, if_false, xI_cl, Int.toNat_natCast, iI_m, iI_a, iI_s, iI_1, xI_n, Option.bind_some, Int.natCast_add, Int.natCast_one, xI_zb, if_bI0, if_bI1, xI_rn, xI_ti, am_lt]
    rfl
  · show (fun j => if j = 5 then m else s.2.2 j) = _
    rw [p1]
    funext j
    by_cases c : j = 5
    · subst c
      rw [if_pos rfl, if_neg (by omega), if_pos rfl]
    · rw [if_neg c]
      show (if j < 5 then h.2.2 (j + 1) else h.2.2 j) = _
      by_cases d : j < 5
      · rw [if_pos d, if_pos d]
      · rw [if_neg d, if_neg d, if_neg c]
  · rw [am_u_row (fun z => hg (by cases z; exact ⟨rfl, rfl⟩))]
    show s.1 g o = _
    rw [p2]
  · exact p3
  · rw [au_s, if_pos rfl]
  · rw [au_s, if_neg hj]
    show s.1 (.inl 1) 0 j = _
    rw [p2]
theorem cl_keep (ok : Ok st) (R : ClR h st) : ∃ h', f_X11_keepForUndo h = some h' ∧ ClR h' (stK st) ∧ MFr h h' := by
  obtain ⟨r1, ⟨r2, r3⟩, ⟨r4, r5, r6, r7⟩, ⟨r8, r9⟩, ⟨r10, r11⟩, r12, r13⟩ := R
  have o6 := ok.2.2.1.1
  by_cases c : st.2.2.1.1 < 6
  · obtain ⟨h', e, a1, a2, a3, a4, a5, a6, a7⟩ := k_keep56 ok c r1 r4 r5 r6 r7
    refine ⟨h', ?_, ?_, a7⟩
    · unfold f_X11_keepForUndo
      simp (disch := omega) only [xI_le, xI_lt, xI_eq, xI_0, xI_ib, if_pos, if_neg, if_true, if_false, xI_cl, Int.toNat_natCast, iI_m, iI_a, iI_s, iI_1, xI_n, Option.bind_some, Int.natCast_add, Int.natCast_one, xI_zb, if_bI0, if_bI1, xI_rn, xI_ti, r4, e]
    · have hp : pushP st = (st.2.2.1.1 + 1, fun i => if i = st.2.2.1.1 then st.1 else st.2.2.1.2 i) := if_pos c
      refine ⟨r1.eq (a4 0 (by omega)), ⟨by rw [a6 4 (by omega)]; exact r2, fun z => (r3 z).eq (a4 3 (by omega))⟩, ?_, ⟨by rw [a5 8 (by omega)]; exact r8, by rw [a5 9 (by omega)]; exact r9⟩, ⟨by rw [a5 8 (by omega)]; exact r10, by rw [a5 8 (by omega)]; exact r11⟩, by rw [a5 16 (by omega)]; exact r12, by rw [a5 17 (by omega)]; exact r13⟩
      show h'.1 (.inl 1) 0 6 = iI (pushP st).1 ∧ (∀ i, i < 6 → 4 ≤ h'.2.2 i ∧ h'.2.2 i < 10) ∧ (∀ i j, i < 6 → j < 6 → h'.2.2 i = h'.2.2 j → i = j) ∧ ∀ i, i < 6 → i < (pushP st).1 → cl_pl h' (h'.2.2 i) ((pushP st).2 i)
      rw [hp]
      refine ⟨a1, ?_, ?_, a3⟩
      · rw [a2]; exact r5
      · rw [a2]; exact r6
  · obtain ⟨s, e0, b1, b2, b3, b4, b5⟩ := k_rot (h := h) rfl r5
    have hs : st.2.2.1.1 = 6 := by omega
    have bp : ∀ k o, s.1 (.inr k) o = h.1 (.inr k) o := fun k o => b2 _ _ (by simp)
    have hx : ∀ i, i < 6 → s.2.2 i = h.2.2 (if i = 5 then 0 else i + 1) := fun i hi => by
      rw [b1]
      by_cases d : i = 5
      · subst d; rfl
      · rw [if_neg d]; exact if_pos (by omega)
    obtain ⟨h', e, a1, a2, a3, a4, a5, a6, a7⟩ := k_keep56 (h := s) (n := 5) (f := fun i => st.2.2.1.2 (i + 1)) ok (by omega) (r1.eq (bp 0)) b4 (fun i hi => by
      rw [hx i hi]; exact r5 _ (by split <;> omega)) (fun i j hi hj z => by
      rw [hx i hi, hx j hj] at z
      have := r6 _ _ (by split <;> omega) (by split <;> omega) z
      split at this <;> split at this <;> omega) (fun i hi h5 => by
      rw [hx i hi, if_neg (by omega)]
      exact (r7 (i + 1) (by omega) (by omega)).eq (bp _))
    have m0 : MFr h s := ⟨fun o => b2 _ _ (by simp), fun o => by rw [b3]⟩
    refine ⟨h', ?_, ?_, m0.tr a7⟩
    · unfold f_X11_keepForUndo
      have hr := r5 0 (by omega)
      simp (disch := omega) only [xI_le, xI_lt, xI_eq, xI_0, xI_ib, if_pos, if_neg, if_true, if_false, xI_cl, Int.toNat_natCast, iI_m, iI_a, iI_s, iI_1, xI_n, Option.bind_some, Int.natCast_add, Int.natCast_one, xI_zb, if_bI0, if_bI1, xI_rn, xI_ti, r4, hs, show (0 : Int).toNat = 0 from rfl]
      rw [e0, e]
    · have hp : pushP st = (6, fun i => if i = 5 then st.1 else st.2.2.1.2 (i + 1)) := if_neg c
      have a5' : ∀ o, o ≠ 0 → h'.1 (.inl 1) o = h.1 (.inl 1) o := fun o ho => (a5 o ho).trans (b2 _ _ (fun z => ho z.2))
      have a4' : ∀ k, k < 4 → ∀ o, h'.1 (.inr k) o = h.1 (.inr k) o := fun k hk o => (a4 k hk o).trans (bp k o)
      refine ⟨r1.eq (a4' 0 (by omega)), ⟨by rw [a6 4 (by omega), b5 4 (by omega)]; exact r2, fun z => (r3 z).eq (a4' 3 (by omega))⟩, ?_, ⟨by rw [a5' 8 (by omega)]; exact r8, by rw [a5' 9 (by omega)]; exact r9⟩, ⟨by rw [a5' 8 (by omega)]; exact r10, by rw [a5' 8 (by omega)]; exact r11⟩, by rw [a5' 16 (by omega)]; exact r12, by rw [a5' 17 (by omega)]; exact r13⟩
      show h'.1 (.inl 1) 0 6 = iI (pushP st).1 ∧ (∀ i, i < 6 → 4 ≤ h'.2.2 i ∧ h'.2.2 i < 10) ∧ (∀ i j, i < 6 → j < 6 → h'.2.2 i = h'.2.2 j → i = j) ∧ ∀ i, i < 6 → i < (pushP st).1 → cl_pl h' (h'.2.2 i) ((pushP st).2 i)
      rw [hp]
      refine ⟨a1, fun i hi => ?_, fun i j hi hj z => ?_, a3⟩
      · rw [a2, hx i hi]; exact r5 _ (by split <;> omega)
      · rw [a2, hx i hi, hx j hj] at z
        have := r6 _ _ (by split <;> omega) (by split <;> omega) z
        split at this <;> split at this <;> omega
end KEE
