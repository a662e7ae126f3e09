/-! names and widths, the reference's -/
section MNW
variable {h : am_H} {b : bfT} {T : Tk} {v : pv_T}
theorem mo_rw.namX {f f' : Nat → Int32} {g : Nat → Int} {n : Nat} (h0 : v.1 0 ≤ 8) (h1 : v.1 1 + n < 20) (h2 : v.1 2 ≤ 6) (e : ∀ j, j ≠ 1 → (j < 44 + 3 * (v.1 1 + n) ∨ 44 + 3 * (v.1 1 + n) + 3 ≤ j) → f' j = f j) (e1 : f' 1 = iI ((v.1 1 : Int) + n + 1)) (c0 : f' (44 + 3 * (v.1 1 + n)) = iI (g n - 97)) (c1 : f' (44 + 3 * (v.1 1 + n) + 1) = iI 0) (c2 : f' (44 + 3 * (v.1 1 + n) + 2) = iI 0) (R : mo_rw f (namV v g n)) : mo_rw f' (namV v g (n + 1)) := by
  obtain ⟨⟨r0, r1, r2, r3, r4, r5, r6, r7, r8⟩, ra, rl, rw', rk, rs⟩ := R
  refine ⟨⟨(e 0 (by omega) (by omega)).trans r0, ?_, (e 2 (by omega) (by omega)).trans r2, (e 3 (by omega) (by omega)).trans r3, (e 4 (by omega) (by omega)).trans r4, (e 5 (by omega) (by omega)).trans r5, (e 6 (by omega) (by omega)).trans r6, (e 7 (by omega) (by omega)).trans r7, (e 8 (by omega) (by omega)).trans r8⟩, fun i hi c hc => ?_, fun i hi c hc => ?_, fun i hi => ?_, fun i hi c hc => ?_, fun i hi c hc => ?_⟩
  · rw [e1]
    show _ = iI ((v.1 1 + (n + 1) : Nat) : Int)
    congr 1
  · have hi' : i < v.1 0 := hi
    exact (e _ (by omega) (by omega)).trans (ra i hi c hc)
  · have hi' : i < v.1 1 + (n + 1) := hi
    have hc' : c = 0 ∨ c = 1 ∨ c = 2 := by omega
    by_cases d : i = v.1 1 + n
    · subst d
      rcases hc' with rfl | rfl | rfl
      · show f' (44 + 3 * (v.1 1 + n)) = iI ((namV v g (n + 1)).2 5 (v.1 1 + n))
        rw [namV_5 (by omega), Nat.add_sub_cancel_left]; exact c0
      · show _ = iI ((namV v g (n + 1)).2 6 (v.1 1 + n))
        rw [namV_67 (Or.inl rfl) (by omega)]; exact c1
      · show _ = iI ((namV v g (n + 1)).2 7 (v.1 1 + n))
        rw [namV_67 (Or.inr rfl) (by omega)]; exact c2
    · rw [e _ (by omega) (by omega)]
      exact rl i (show i < v.1 1 + n by omega) c hc
  · exact (e _ (by omega) (by omega)).trans (rw' i hi)
  · have hi' : i < v.1 2 := hi
    exact (e _ (by omega) (by omega)).trans (rk i hi c hc)
  · exact (e _ (by omega) (by omega)).trans (rs i hi c hc)
theorem m_addsLetter {g : Nat → Int} {n : Nat} (h0 : v.1 0 ≤ 8) (h1 : v.1 1 + n < 20) (h2 : v.1 2 ≤ 6) (P : mo_pl h (namV v g n)) : ∃ h', f_X12_addsLetter (iI (g n - 97)) h = some h' ∧ mo_pl h' (namV v g (n + 1)) ∧ Wr [(.inl 0, 2)] h h' := by
  have r1 : h.1 (.inl 0) 2 1 = iI ((v.1 1 + n : Nat) : Int) := P.1.2.1
  rw [Int.natCast_add] at r1
  refine ⟨am_u (am_u (am_u (am_u h (.inl 0) 2 (44 + 3 * (v.1 1 + n)) (iI (g n - 97))) (.inl 0) 2 (44 + 3 * (v.1 1 + n) + 1) (iI 0)) (.inl 0) 2 (44 + 3 * (v.1 1 + n) + 2) (iI 0)) (.inl 0) 2 1 (iI ((v.1 1 : Int) + n + 1)), ?_, ?_, (Wr.u (by simp)).tr ((Wr.u (by simp)).tr ((Wr.u (by simp)).tr (Wr.u (by simp))))⟩
  · unfold f_X12_addsLetter f_X12_setsLetter
    simp (disch := omega) only [xI_le, xI_lt, xI_eq, xI_0, xI_ib, if_pos, if_neg, if_true, if_false, xI_cl, Int.toNat_natCast, iI_m, iI_a, iI_s, iI_1, xI_n, Option.bind_some, Int.natCast_add, Int.natCast_one, xI_zb, if_bI0, if_bI1, xI_rn, xI_ti, Int.toNat_one, r1, am_lt, au_s, show (44 + 3 * ((v.1 1 : Int) + (n : Int)) + 0).toNat = 44 + 3 * (v.1 1 + n) from by omega, show (44 + 3 * ((v.1 1 : Int) + (n : Int)) + 1).toNat = 44 + 3 * (v.1 1 + n) + 1 from by omega, show (44 + 3 * ((v.1 1 : Int) + (n : Int)) + 2).toNat = 44 + 3 * (v.1 1 + n) + 2 from by omega]
  · refine mo_rw.namX h0 h1 h2 (fun j hj hj2 => ?_) ?_ ?_ ?_ ?_ P
    · rw [au_s, if_neg hj, au_s, if_neg (by omega), au_s, if_neg (by omega), au_s, if_neg (by omega)]
    · rw [au_s, if_pos rfl]
    · rw [au_s, if_neg (by omega), au_s, if_neg (by omega), au_s, if_neg (by omega), au_s, if_pos rfl]
    · rw [au_s, if_neg (by omega), au_s, if_neg (by omega), au_s, if_pos rfl]
    · rw [au_s, if_neg (by omega), au_s, if_pos rfl]
theorem namV_0 {g : Nat → Int} {f : Nat → Int32} (R : mo_rw f v) : mo_rw f (namV v g 0) := by
  obtain ⟨ra0, ra, rl, rw', rk, rs⟩ := R
  refine ⟨ra0, fun i hi c hc => (by rw [namV_c (by omega)]; exact ra i hi c hc), fun i hi c hc => ?_, rw', fun i hi c hc => (by rw [namV_c (by omega)]; exact rk i hi c hc), fun i hi c hc => (by rw [namV_c (by omega)]; exact rs i hi c hc)⟩
  have hi' : i < v.1 1 + 0 := hi
  have hc' : c = 0 ∨ c = 1 ∨ c = 2 := by omega
  rw [rl i (by omega) c hc]
  rw [namV_lt (by omega)]
theorem m_addsWord {g : Nat → Int} {n : Nat} (h0 : v.1 0 ≤ 8) (h1 : v.1 1 + n ≤ 20) (h2 : v.1 2 ≤ 6) (hn : n ≤ 8) (hg : ∀ i, i < n → 97 ≤ g i ∧ g i ≤ 122) (P : mo_pl h v) : ∃ h', f_X12_addsWord (lN (pkN g n)) h = some h' ∧ mo_pl h' (namV v g n) ∧ Wr [(.inl 0, 2)] h h' := by
  obtain ⟨s, e1, p1, w1⟩ := ch_rel (fun i s => f_X12_addsWord_2 (lN (pkN g n)) (iI i) s) (fun i s => mo_pl s (namV v g i) ∧ Wr [(.inl 0, 2)] h s) (n := n) (fun i s hi hs => by
    obtain ⟨p, w⟩ := hs
    obtain ⟨s', e', p', w'⟩ := m_addsLetter (g := g) (n := i) h0 (by omega) h2 p
    refine ⟨s', ?_, p', w.tr w'⟩
    have el := m_letterOf hn hg (i := (i : Int)) (by omega)
    rw [if_pos (by omega), Int.toNat_natCast] at el
    show f_X12_addsWord_2 _ _ _ = f_X12_addsWord_2 _ _ _
    rw [e_X12_addsWord_2]
    simp (disch := omega) only [xI_le, xI_lt, xI_eq, xI_0, xI_ib, if_pos, if_neg, if_true, if_false, xI_cl, Int.toNat_natCast, iI_m, iI_a, iI_s, iI_1, xI_n, Option.bind_some, Int.natCast_add, Int.natCast_one, xI_zb, if_bI0, if_bI1, xI_rn, xI_ti, m_lettersOf hn hg, el, e']) (s0 := h) ⟨namV_0 P, Wr.rf⟩
  refine ⟨s, ?_, p1, w1⟩
  unfold f_X12_addsWord
  refine Eq.trans e1 ?_
  show f_X12_addsWord_2 _ _ _ = _
  rw [e_X12_addsWord_2]
  simp (disch := omega) only [xI_le, xI_lt, xI_eq, xI_0, xI_ib, if_pos, if_neg, if_true, if_false, xI_cl, Int.toNat_natCast, iI_m, iI_a, iI_s, iI_1, xI_n, Option.bind_some, Int.natCast_add, Int.natCast_one, xI_zb, if_bI0, if_bI1, xI_rn, xI_ti, m_lettersOf hn hg]
theorem er_name39 {e : Int × Int} (E : mo_er h e) : f_X12_readsName_39 h = some h := by
  unfold f_X12_readsName_39
  rw [er_good E, Option.bind_some, if_pos (by decide)]
theorem m_readsName (hb : bOk b) (hT : tk_ok b T) (hv : pvZ v) (R : mo_ps h b v T) : mK (f_X12_readsName h) (sName b v T) (TS h) (fun x h' => mo_ps h' b x.1 x.2) := by
  have hA := adv_ok hT
  have h8 := hv.1.1.1
  have ib1 : ib (iI 1) 408 := by rw [xI_ib (by omega) (by omega) (by omega)]; trivial
  have c1 : (iI 1).toNatClampNeg = 1 := rfl
  obtain ⟨h1, e1, t1, k1⟩ := m_next hb hT R.1
  have R1 : mo_ps h1 b v (tkA b T.2.2) := R.tf k1 t1
  have hm := m_mustBe hA.1 t1
  unfold sName f_X12_readsName
  rw [e1, Option.bind_some]
  by_cases c : (tkA b T.2.2).1 = 1
  · rw [if_pos c] at hm ⊢
    obtain ⟨h2, e2, rfl, k2⟩ := hm
    have hl := hA.1.2.2.2.2.2.1 c
    have hw := t1.1.2.2.2.2.1 c
    have a1 := hA.1.2.1
    have el := m_lettersOf (f := wdF b (tkA b T.2.2)) (n := (tkA b T.2.2).2.2 - (tkA b T.2.2).2.1) (by omega) (fun i hi => wdF_l hA.1 c hi)
    have r1 := R1.2.1.1.2.1
    rw [e2, Option.bind_some, m_good t1, Option.bind_some, if_neg (by decide), if_pos ib1, hw, el, Option.bind_some, c1, r1]
    by_cases d : v.1 1 + ((tkA b T.2.2).2.2 - (tkA b T.2.2).2.1) ≤ 20
    · rw [if_pos d, if_pos (by rw [iI_a, xI_le (by omega) (by omega) (by omega) (by omega)]; omega)]
      obtain ⟨h3, e3, P3, w3⟩ := m_addsWord (g := wdF b (tkA b T.2.2)) h8.1 d h8.2.2.1 (by omega) (fun i hi => wdF_l hA.1 c hi) R1.2.1
      have t3 := t1.wr w3 (by simp) (by simp)
      obtain ⟨h4, e4, t4, k4⟩ := m_next hb hA.1 t3
      unfold f_X12_readsName_39
      rw [m_good t1, Option.bind_some, if_neg (by decide), hw, e3, Option.bind_some, e4, Option.bind_some]
      exact ⟨h4, rfl, ⟨t4, P3.tf k4.2, (R1.2.2.sm (w3.2.1 _ _ (by simp)) rfl (namV_c (by omega))).tf k4.2 (by omega)⟩, k1.s.tr ((TS.w2 w3).tr k4.s)⟩
    · obtain ⟨h3, e3, t3, k3⟩ := m_wrong hA.1 t1 (c := 5) (by omega)
      rw [if_neg (by omega)] at t3
      rw [if_neg d, if_neg (by rw [iI_a, xI_le (by omega) (by omega) (by omega) (by omega)]; omega), e3, Option.bind_some, er_name39 t3]
      exact ⟨h3, rfl, t3, (k1.tr k3).s⟩
  · rw [if_neg c] at hm ⊢
    obtain ⟨h2, e2, t2, k2⟩ := hm
    rw [e2, Option.bind_some, er_good t2, Option.bind_some, if_pos (by decide), er_name39 t2]
    exact ⟨h2, rfl, t2, (k1.tr k2).s⟩
theorem m_wide43 {g : Nat → Int} {n : Nat} {w : Int} (hv : pvZ v) (hw : 1 ≤ w ∧ w ≤ 99) (hn : n ≤ 8) (hg : ∀ i, i < n → 97 ≤ g i ∧ g i ≤ 122) (P : mo_pl h v) : ∃ h', f_X12_readsWide_43 (lN (pkN g n)) (iI w) (iI 0) h = some h' ∧ mo_pl h' (widV v g w n) ∧ Wr [(.inl 0, 2)] h h' := by
  obtain ⟨s, e1, p1, w1⟩ := ch_rel (fun i s => f_X12_readsWide_43 (lN (pkN g n)) (iI w) (iI i) s) (fun i s => mo_pl s (widV v g w i) ∧ Wr [(.inl 0, 2)] h s) (n := n) (fun i s hi hs => by
    obtain ⟨p, wr⟩ := hs
    have hc := hg i hi
    have hz := widV_Z (f := g) hv hw i
    refine ⟨am_u s (.inl 0) 2 (104 + (g i - 97).toNat) (iI w), ?_, mo_rw.u8 hz.1.1.1 (by omega) (fun j hj => by rw [au_s, if_neg hj]) (by rw [au_s, if_pos rfl]) p, wr.tr (Wr.u (by simp))⟩
    have el := m_letterOf hn hg (i := (i : Int)) (by omega)
    rw [if_pos (by omega), Int.toNat_natCast] at el
    show f_X12_readsWide_43 _ _ _ _ = f_X12_readsWide_43 _ _ _ _
    rw [e_X12_readsWide_43]
    simp (disch := omega) only [xI_le, xI_lt, xI_eq, xI_0, xI_ib, if_pos, if_neg, if_true, if_false, xI_cl, Int.toNat_natCast, iI_m, iI_a, iI_s, iI_1, xI_n, Option.bind_some, Int.natCast_add, Int.natCast_one, xI_zb, if_bI0, if_bI1, xI_rn, xI_ti, m_lettersOf hn hg, el, am_lt, show (104 + g i - 97).toNat = 104 + (g i - 97).toNat from by omega]) (s0 := h) ⟨P, Wr.rf⟩
  refine ⟨s, Eq.trans e1 ?_, p1, w1⟩
  show f_X12_readsWide_43 _ _ _ _ = _
  rw [e_X12_readsWide_43]
  simp (disch := omega) only [xI_le, xI_lt, xI_eq, xI_0, xI_ib, if_pos, if_neg, if_true, if_false, xI_cl, Int.toNat_natCast, iI_m, iI_a, iI_s, iI_1, xI_n, Option.bind_some, Int.natCast_add, Int.natCast_one, xI_zb, if_bI0, if_bI1, xI_rn, xI_ti, m_lettersOf hn hg]
theorem er_wide24 {e : Int × Int} (E : mo_er h e) {x : Int64} : f_X12_readsWide_24 x h = some h := by
  rw [e_X12_readsWide_24, er_number E, Option.bind_some]
  dsimp only
  rw [er_good E, Option.bind_some, if_pos (by decide)]
theorem widV_14 {g : Nat → Int} {w : Int} : ∀ n, (widV v g w n).2 14 = v.2 14
  | 0 => rfl
  | n + 1 => (pu_row (by omega)).trans (widV_14 n)
theorem widV_1 {g : Nat → Int} {w : Int} : ∀ n, (widV v g w n).1 = v.1
  | 0 => rfl
  | n + 1 => widV_1 n
theorem m_readsWide (hb : bOk b) (hT : tk_ok b T) (hv : pvZ v) (R : mo_ps h b v T) : mK (f_X12_readsWide h) (sWide b v T) (TS h) (fun x h' => mo_ps h' b x.1 x.2) := by
  have hA := adv_ok hT
  have hB := adv_ok hA.1
  obtain ⟨h1, e1, t1, k1⟩ := m_next hb hT R.1
  have R1 : mo_ps h1 b v (tkA b T.2.2) := R.tf k1 t1
  have hm := m_mustBe hA.1 t1
  unfold sWide f_X12_readsWide
  rw [e1, Option.bind_some]
  by_cases c : (tkA b T.2.2).1 = 1
  · rw [if_pos c] at hm ⊢
    obtain ⟨h2, e2, rfl, k2⟩ := hm
    have hl := hA.1.2.2.2.2.2.1 c
    have hw := t1.1.2.2.2.2.1 c
    have a1 := hA.1.2.1
    obtain ⟨h3, e3, t3, k3⟩ := m_next hb hA.1 t1
    have R3 := R1.tf k3 t3
    rw [e2, Option.bind_some, m_good t1, Option.bind_some, if_neg (by decide), hw, e3, Option.bind_some, e_X12_readsWide_24]
    refine mKn.bind (m_number hb hB.1 t3 (by omega) (by omega)) (fun y h' e E f => ⟨h', ?_, E, (k1.tr (k3.tr f)).s⟩) (fun x4 y4 h4 s4 q4 f4 => ?_)
    · dsimp only
      rw [er_good E, Option.bind_some, if_pos (by decide)]
    obtain ⟨rfl, t4⟩ := q4
    have o4 := sNum_ok hB.1 s4
    have R4 := R3.tf f4 t4
    obtain ⟨h5, e5, P5, w5⟩ := m_wide43 (g := wdF b (tkA b T.2.2)) (n := (tkA b T.2.2).2.2 - (tkA b T.2.2).2.1) (w := x4.1) hv ⟨o4.2.2.1, o4.2.2.2⟩ (by omega) (fun i hi => wdF_l hA.1 c hi) R4.2.1
    dsimp only
    rw [m_good t4, Option.bind_some, if_neg (by decide), e5]
    exact ⟨h5, rfl, ⟨t4.wr w5 (by simp) (by simp), P5, R4.2.2.sm (w5.2.1 _ _ (by simp)) (by show (widV _ _ _ _).1 2 = _; rw [widV_1]) (widV_14 _)⟩, (k1.tr (k3.tr f4)).s.tr (TS.w2 w5)⟩
  · rw [if_neg c] at hm ⊢
    obtain ⟨h2, e2, t2, k2⟩ := hm
    rw [e2, Option.bind_some, er_good t2, Option.bind_some, if_pos (by decide), er_wide24 t2]
    exact ⟨h2, rfl, t2, (k1.tr k2).s⟩
end MNW
