section POL
variable {h : am_H} {st : St} {v : pv_T} {k : Nat}
theorem k_polishLetter (hv : pv_ok v) {l : Nat} (hl : l < v.1 1) (R : cl_pl h k v) : ∃ h', f_X5_polishLetter k (iI l) h = some (iI ((v.1 3 : Int) - cN (oth v l) (v.1 3)), h') ∧ cl_pl h' k (poV v l) := by
  have h8 := hv.1
  have g3 := hv.2.2.1 l hl
  have R1 := R.pu6 (j := l) (x := 0)
  have R2 := R1.pu7 (j := l) (x := v.2 7 l + 1)
  have ho : oth (pu (pu v 6 l 0) 7 l (v.2 7 l + 1)) l = oth v l := by
    show (fun i' => decide ((pu (pu v 6 l 0) 7 l (v.2 7 l + 1)).2 12 i' ≠ (l : Int))) = _
    rw [pu_row (by omega), pu_row (by omega)]
  have q9 := (R.2.1.2.1 l hl).2.2
  have hs : ∀ i, i < v.1 3 → 0 ≤ v.2 12 i ∧ v.2 12 i < v.1 1 := fun i hi => ⟨(hv.2.2.2.2.2.1 i hi).1, (hv.2.2.2.2.2.1 i hi).2.1⟩
  obtain ⟨h', e, S⟩ := k_removeAllOf' (v := pu (pu v 6 l 0) 7 l (v.2 7 l + 1)) (l := l) h8.2.1 h8.2.2.2 (fun i hi => by rw [pu_row (by omega), pu_row (by omega)]; exact hs i hi) hl R2.2.2.2.2.1
  rw [ho] at e
  have w := wr_X7_removeAllOf e
  refine ⟨h', ?_, R2.scr (fun o h1 h2 h3 => w.1 _ _ (by simp; omega)) (fun j hj => if_neg hj) (fun c h1 h2 => by funext i; exact if_neg (fun z => z.elim h1 h2)) S⟩
  unfold f_X5_polishLetter
  simp (disch := omega) only [xI_le, xI_lt, xI_eq, xI_0, xI_ib, if_pos, if_neg, if_true, if_false, xI_cl, Int.toNat_natCast, iI_m, iI_a, iI_s, iI_1, xI_n, Option.bind_some, Int.natCast_add, Int.natCast_one, xI_zb, if_bI0, if_bI1, xI_rn, xI_ti, vz0, am_lt, am_u_row (show ((.inr k : am_G), 9) ≠ (.inr k, 8) by simp), q9]
  rw [e]
  rfl
theorem m_polishes (hv : pv_ok v) {l : Nat} (hl : l < v.1 1) (R : mo_pl h v) : ∃ h', f_X12_polishes (iI l) h = some (iI ((v.1 3 : Int) - cN (oth v l) (v.1 3)), h') ∧ mo_pl h' (poV v l) := by
  have h8 := hv.1
  have g3 := hv.2.2.1 l hl
  have hc := cN_le (oth v l) (v.1 3)
  have R0 : mo_pl h (drI v l (v.1 3)) := R.eqv (by
    funext k
    show (if k = 3 then v.1 3 + (cN (oth v l) (v.1 3) - cN (oth v l) (v.1 3)) else v.1 k) = v.1 k
    by_cases c : k = 3
    · rw [if_pos c, c]; omega
    · rw [if_neg c]) (fun c h1 h2 => by funext i; exact if_neg (fun z => z.elim h1 h2)) (fun i hi => ⟨drI_at (Or.inl rfl) hi, drI_at (Or.inr rfl) hi⟩)
  obtain ⟨t, e1, p1⟩ := ch_rel (fun a t => f_X12_polishes_12 (iI l) (iI (v.1 3)) (iI ((v.1 3 : Int) - 1 - a)) t) (fun a t => mo_pl t (drI v l (v.1 3 - a))) (n := v.1 3) (fun a t ha pt => by
    have ei : v.1 3 - a = (v.1 3 - (a + 1)) + 1 := by omega
    rw [ei] at pt
    have hm := cN_mono (p := oth v l) (i := v.1 3 - (a + 1) + 1) (n := v.1 3) (by omega)
    have hi : v.1 3 - (a + 1) < v.1 3 := by omega
    generalize eI : v.1 3 - (a + 1) = i at *
    have eI' : (v.1 3 : Int) - 1 - a = (i : Int) := by omega
    have hk : (drI v l (i + 1)).1 3 ≤ 44 := by show i + 1 + (cN (oth v l) (v.1 3) - cN (oth v l) (i + 1)) ≤ 44; have := cN_lip (p := oth v l) (i := i + 1) (n := v.1 3) (by omega); omega
    have hi3 : i < (drI v l (i + 1)).1 3 := by show i < i + 1 + (cN (oth v l) (v.1 3) - cN (oth v l) (i + 1)); omega
    have e12 : (drI v l (i + 1)).2 12 i = v.2 12 i := drI_at (Or.inl rfl) (by omega)
    have eo := m_ofS0' hk pt hi3
    rw [e12] at eo
    have g6 := hv.2.2.2.2.2.1 i hi
    by_cases c : v.2 12 i = (l : Int)
    · have cf : oth v l i = false := decide_eq_false (fun z => z c)
      obtain ⟨t', e', P'⟩ := m_drops (v := drI v l (i + 1)) h8.1 h8.2.1 h8.2.2.1 hi3 hk pt
      rw [drI_f hi cf] at P'
      refine ⟨t', ?_, P'⟩
      show f_X12_polishes_12 _ _ _ _ = f_X12_polishes_12 _ _ _ _
      rw [e_X12_polishes_12, eI']
      simp (disch := omega) only [xI_le, xI_lt, xI_eq, xI_0, xI_ib, if_pos, if_neg, if_true, if_false, xI_cl, Int.toNat_natCast, iI_m, iI_a, iI_s, iI_1, xI_n, Option.bind_some, Int.natCast_add, Int.natCast_one, xI_zb, if_bI0, if_bI1, xI_rn, xI_ti, eo, e', show (v.1 3 : Int) - 1 - ((a : Int) + 1) = (i : Int) + -1 from by omega]
    · have ct : oth v l i = true := decide_eq_true c
      rw [drI_t hi ct] at pt
      refine ⟨t, ?_, pt⟩
      show f_X12_polishes_12 _ _ _ _ = f_X12_polishes_12 _ _ _ _
      rw [e_X12_polishes_12, eI']
      simp (disch := omega) only [xI_le, xI_lt, xI_eq, xI_0, xI_ib, if_pos, if_neg, if_true, if_false, xI_cl, Int.toNat_natCast, iI_m, iI_a, iI_s, iI_1, xI_n, Option.bind_some, Int.natCast_add, Int.natCast_one, xI_zb, if_bI0, if_bI1, xI_rn, xI_ti, eo, show (v.1 3 : Int) - 1 - ((a : Int) + 1) = (i : Int) + -1 from by omega]) (s0 := h) R0
  rw [Nat.sub_self, drI_0] at p1
  have e : poV v l = pu (pu (fltS v l) 6 l 0) 7 l (v.2 7 l + 1) := by unfold poV; rw [flt_pu (by omega) (by omega), flt_pu (by omega) (by omega)]
  have hfo : pvW (fltS v l) := ⟨⟨⟨h8.1, h8.2.1, h8.2.2.1, Nat.zero_le 44⟩, hv.2.1, hv.2.2.1, hv.2.2.2.1, hv.2.2.2.2.1, fun i hi => absurd hi (Nat.not_lt_zero i), hv.2.2.2.2.2.2⟩, fun i hi => by
    obtain ⟨q, q1, q2, q3⟩ := fl_ex (show i < cN (oth v l) (v.1 3) from hi)
    have e12 : (fltS v l).2 12 i = v.2 12 q := q3 _
    have e13 : (fltS v l).2 13 i = v.2 13 q := q3 _
    rw [e12, e13]
    exact hv.2.2.2.2.2.1 q q1⟩
  have hc44 : (fltS v l).1 3 ≤ 44 := by show cN (oth v l) (v.1 3) ≤ 44; omega
  have P1 := mo_rw.pu6 (v := fltS v l) (j := l) (x := 0) hfo hl (by omega) p1
  have hfo2 : pv_ok (pu (fltS v l) 6 l 0) := by
    obtain ⟨a1, a2, a3, a4, a5, a6, a7⟩ := hfo.ok hc44
    refine ⟨a1, a2, fun i hi => ?_, a4, a5, a6, a7⟩
    have := a3 i hi
    refine ⟨this.1, this.2.1, ?_, ?_, this.2.2.2.2⟩
    · show 0 ≤ (if i = l then 0 else (fltS v l).2 6 i); split <;> omega
    · show (if i = l then 0 else (fltS v l).2 6 i) ≤ 1; split <;> omega
  have P2 := mo_rw.pu7 (j := l) (x := v.2 7 l + 1) hfo2 hl P1
  have q7 : (am_u t (.inl 0) 2 (44 + 3 * l + 1) (iI 0)).1 (.inl 0) 2 (44 + 3 * l + 2) = iI (v.2 7 l) := P1.2.2.1 l hl 2 (by omega)
  have q8 : t.1 (.inl 0) 2 8 = iI (cN (oth v l) (v.1 3)) := p1.1.2.2.2.2.2.2.2.2
  refine ⟨_, ?_, by rw [e]; exact P2⟩
  unfold f_X12_polishes
  have r8 := R.1.2.2.2.2.2.2.2.2
  simp (disch := omega) only [xI_le, xI_lt, xI_eq, xI_0, xI_ib, if_pos, if_neg, if_true, if_false, xI_cl, Int.toNat_natCast, iI_m, iI_a, iI_s, iI_1, xI_n, Option.bind_some, Int.natCast_add, Int.natCast_one, xI_zb, if_bI0, if_bI1, xI_rn, xI_ti, show (8 : Int).toNat = 8 from rfl, r8]
  refine Eq.trans (Eq.trans (congrArg (fun z => f_X12_polishes_12 (iI l) (iI (v.1 3)) (iI z) h) (show (v.1 3 : Int) - 1 = (v.1 3 : Int) - 1 - ((0 : Nat) : Int) by omega)) e1) ?_
  show f_X12_polishes_12 _ _ _ _ = _
  have h20 : l < 20 := Nat.lt_of_lt_of_le hl h8.2.1
  rw [e_X12_polishes_12]
  unfold f_X12_countsMend f_X12_setsLetter f_X12_ofLetter
  generalize cN (oth v l) (v.1 3) = m at *
  simp (disch := omega) only [xI_le, xI_lt, xI_eq, xI_0, xI_ib, if_pos, if_neg, if_true, if_false, xI_cl, Int.toNat_natCast, iI_m, iI_a, iI_s, iI_1, xI_n, Option.bind_some, Int.natCast_add, Int.natCast_one, xI_zb, if_bI0, if_bI1, xI_rn, xI_ti, show (44 + 3 * (l : Int) + 1).toNat = 44 + 3 * l + 1 from by omega, show (44 + 3 * (l : Int) + 2).toNat = 44 + 3 * l + 2 from by omega, am_lt, q7, show (8 : Int).toNat = 8 from rfl, au_s, q8]
end POL
