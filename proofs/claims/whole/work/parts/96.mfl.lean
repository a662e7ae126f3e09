/-! flourishes, the reference's -/
section MFL
variable {h : am_H} {b : bfT} {T : Tk} {v : pv_T}
theorem pkN_cg {f g : Nat → Int} : ∀ {n : Nat}, (∀ i, i < n → f i = g i) → pkN f n = pkN g n
  | 0, _ => rfl
  | n + 1, h => by
    show (if f n = 0 then pkN f n else pkN f n * 32 + (f n - 96).toNat) = (if g n = 0 then pkN g n else pkN g n * 32 + (g n - 96).toNat)
    rw [h n (by omega), pkN_cg (n := n) (fun i hi => h i (by omega))]
theorem wdZ_pk (hT : tk_ok b T) (h1 : T.1 = 1) : pkN (wdZ b T) 8 = pkN (wdF b T) (T.2.2 - T.2.1) := by
  have h6 := hT.2.2.2.2.2.1 h1
  rw [pkN_tail (n := T.2.2 - T.2.1) (m := 8) (by omega) (fun i h2 _ => if_neg (by omega))]
  exact pkN_cg (fun i hi => if_pos hi)
theorem nm_pk {f g : Nat → Int} (hf : nm_ok f) (hg : nm_ok g) : (pkN f 8 = pkN g 8) = ∀ i, i < 8 → f i = g i := by
  obtain ⟨n, n1, n2, n3, n4⟩ := hf
  obtain ⟨m, m1, m2, m3, m4⟩ := hg
  refine propext ⟨fun e => ?_, fun e => pkN_cg e⟩
  rw [pkN_tail n2 (fun i a c => n4 i a c), pkN_tail m2 (fun i a c => m4 i a c)] at e
  obtain ⟨rfl, q⟩ := pkN_inj n3 m3 e
  intro i hi
  by_cases c : i < n
  · exact q i c
  · rw [n4 i (by omega) hi, m4 i (by omega) hi]
theorem nm_lt {f : Nat → Int} (hf : nm_ok f) : pkN f 8 < 2 ^ 63 := by
  obtain ⟨n, n1, n2, n3, n4⟩ := hf
  rw [pkN_tail n2 (fun i a c => n4 i a c)]
  have h1 := (pkN_b n3).1
  have h2 := pw32 n2
  omega
theorem m_named {f : Nat → Int} (hv : pvA v) (hf : nm_ok f) (P : mo_pl h v) (N : mo_nm h 7 v) (W : h.2.1 (.inl 0) 0 12 = lN (pkN f 8)) : ∃ y : Int, f_X12_named h = some (iI y) ∧ -1 ≤ y ∧ y ≤ 6 ∧ (y = -1 ↔ ¬ takN v f = true) := by
  have h6 := hv.1.1.2.2.1
  have r2 := P.1.2.2.1
  obtain ⟨s, e1, p1, p2, p3⟩ := ch_rel (fun i (s : Int) => f_X12_named_4 (iI s) (iI i) h) (fun i s => -1 ≤ s ∧ s ≤ 6 ∧ (s = -1 ↔ ∀ q, q < i → ¬ ∀ j, j < 8 → v.2 14 (8 * q + j) = f j)) (n := v.1 2) (fun i s hi hs => by
    obtain ⟨p1, p2, p3⟩ := hs
    have hq := hv.2.2 i hi
    have hn := N i hi
    have key : (lg_cmp (h.2.1 (.inl 0) 7 i) (h.2.1 (.inl 0) 0 12) = iI 0) = ∀ j, j < 8 → v.2 14 (8 * i + j) = f j := by
      rw [← xI_0, lg_eq, hn, W, lN_inj (nm_lt hq) (nm_lt hf), nm_pk hq hf]
    by_cases c : ∀ j, j < 8 → v.2 14 (8 * i + j) = f j
    · refine ⟨i, ?_, by omega, by omega, ⟨fun z => by omega, fun z => absurd c (z i (by omega))⟩⟩
      show f_X12_named_4 _ _ _ = f_X12_named_4 _ _ _
      rw [e_X12_named_4]
      simp (disch := omega) only [xI_le, xI_lt, xI_eq, xI_0, xI_ib, if_pos, if_neg, if_true, if_false, xI_cl, Int.toNat_natCast, iI_m, iI_a, iI_s, iI_1, xI_n, Option.bind_some, Int.natCast_add, Int.natCast_one, xI_zb, if_bI0, if_bI1, xI_rn, xI_ti, show (2 : Int).toNat = 2 from rfl, r2]
      rw [if_pos (by rw [key]; exact c)]
    · refine ⟨s, ?_, p1, p2, ⟨fun z q hq => ?_, fun z => p3.mpr (fun q hq => z q (by omega))⟩⟩
      · show f_X12_named_4 _ _ _ = f_X12_named_4 _ _ _
        rw [e_X12_named_4]
        simp (disch := omega) only [xI_le, xI_lt, xI_eq, xI_0, xI_ib, if_pos, if_neg, if_true, if_false, xI_cl, Int.toNat_natCast, iI_m, iI_a, iI_s, iI_1, xI_n, Option.bind_some, Int.natCast_add, Int.natCast_one, xI_zb, if_bI0, if_bI1, xI_rn, xI_ti, show (2 : Int).toNat = 2 from rfl, r2]
        rw [if_neg (by rw [key]; exact c)]
      · by_cases d : q = i
        · subst d; exact c
        · exact p3.mp z q (by omega)) (s0 := -1) ⟨Int.le_refl _, by omega, ⟨fun _ q hq => absurd hq (Nat.not_lt_zero q), fun _ => rfl⟩⟩
  refine ⟨s, ?_, p1, p2, ⟨fun z t => ?_, fun z => p3.mpr (fun q hq t => z (takN_i.mpr ⟨q, hq, t⟩))⟩⟩
  · unfold f_X12_named
    refine Eq.trans e1 ?_
    show f_X12_named_4 _ _ _ = _
    rw [e_X12_named_4]
    simp (disch := omega) only [xI_le, xI_lt, xI_eq, xI_0, xI_ib, if_pos, if_neg, if_true, if_false, xI_cl, Int.toNat_natCast, iI_m, iI_a, iI_s, iI_1, xI_n, Option.bind_some, Int.natCast_add, Int.natCast_one, xI_zb, if_bI0, if_bI1, xI_rn, xI_ti, show (2 : Int).toNat = 2 from rfl, r2]
  · obtain ⟨q, hq, q2⟩ := takN_i.mp t
    exact p3.mp z q hq q2
/-- what is written of a flourish behind an error -/
theorem er_flo53 {e : Int × Int} (E : mo_er h e) {x1 : Int32} : f_X12_readsFlourish_53 x1 h = some h := by
  unfold f_X12_readsFlourish_53
  rw [er_good E, Option.bind_some, if_pos (by decide)]
theorem er_flo29 {e : Int × Int} (E : mo_er h e) {x1 : Int32} : f_X12_readsFlourish_29 x1 h = some h := by
  unfold f_X12_readsFlourish_29
  rw [er_mustBe E, Option.bind_some, er_good E, Option.bind_some, if_pos (by decide)]
  exact er_flo53 E
theorem mo_rw.cell {f f' : Nat → Int32} {k : Nat} (h0 : v.1 0 ≤ 8) (h1 : v.1 1 ≤ 20) (hk : 130 + 3 * v.1 2 ≤ k) (hk2 : k < 148) (e : ∀ j, j ≠ k → f' j = f j) (R : mo_rw f v) : mo_rw f' v := by
  obtain ⟨⟨r0, r1, r2, r3, r4, r5, r6, r7, r8⟩, ra, rl, rw', rk, rs⟩ := R
  refine ⟨⟨(e 0 (by omega)).trans r0, (e 1 (by omega)).trans r1, (e 2 (by omega)).trans r2, (e 3 (by omega)).trans r3, (e 4 (by omega)).trans r4, (e 5 (by omega)).trans r5, (e 6 (by omega)).trans r6, (e 7 (by omega)).trans r7, (e 8 (by omega)).trans r8⟩, fun i hi c hc => (e _ (by omega)).trans (ra i hi c hc), fun i hi c hc => (e _ (by omega)).trans (rl i hi c hc), fun i hi => (e _ (by omega)).trans (rw' i hi), fun i hi c hc => (e _ (by omega)).trans (rk i hi c hc), fun i hi c hc => (e _ (by omega)).trans (rs i hi c hc)⟩
theorem mo_rw.kinX {f f' : Nat → Int32} {g : Nat → Int} {w wo sk : Int} (h0 : v.1 0 ≤ 8) (h1 : v.1 1 ≤ 20) (h6 : v.1 2 < 6) (e : ∀ j, j ≠ 2 → f' j = f j) (e2 : f' 2 = iI ((v.1 2 : Int) + 1)) (c0 : f' (130 + 3 * v.1 2) = iI w) (c1 : f' (130 + 3 * v.1 2 + 1) = iI wo) (c2 : f' (130 + 3 * v.1 2 + 2) = iI sk) (R : mo_rw f v) : mo_rw f' (kinV v g w wo sk) := by
  obtain ⟨⟨r0, r1, r2, r3, r4, r5, r6, r7, r8⟩, ra, rl, rw', rk, rs⟩ := R
  have a9 : ∀ i, (kinV v g w wo sk).2 9 i = if i = v.1 2 then w else v.2 9 i := fun i => rfl
  have a10 : ∀ i, (kinV v g w wo sk).2 10 i = if i = v.1 2 then wo else v.2 10 i := fun i => rfl
  have a11 : ∀ i, (kinV v g w wo sk).2 11 i = if i = v.1 2 then sk else v.2 11 i := fun i => rfl
  have z0 := kinV_c (v := v) (f := g) (w := w) (wo := wo) (sk := sk) (c := 0) (by omega)
  refine ⟨⟨(e 0 (by omega)).trans r0, (e 1 (by omega)).trans r1, e2, ?_, ?_, ?_, ?_, ?_, (e 8 (by omega)).trans r8⟩, fun i hi c hc => ?_, fun i hi c hc => ?_, fun i hi => ?_, fun i hi c hc => ?_, fun i hi c hc => ?_⟩
  · rw [z0, e 3 (by omega)]; exact r3
  · rw [z0, e 4 (by omega)]; exact r4
  · rw [z0, e 5 (by omega)]; exact r5
  · rw [z0, e 6 (by omega)]; exact r6
  · rw [z0, e 7 (by omega)]; exact r7
  · rw [kinV_c (by omega), e _ (by omega)]; exact ra i hi c hc
  · rw [kinV_c (by omega), e _ (by omega)]; exact rl i hi c hc
  · rw [kinV_c (by omega), e _ (by omega)]; exact rw' i hi
  · have hi' : i < v.1 2 + 1 := hi
    have hc' : c = 0 ∨ c = 1 ∨ c = 2 := by omega
    by_cases d : i = v.1 2
    · subst d
      rcases hc' with rfl | rfl | rfl
      · show f' (130 + 3 * v.1 2) = iI ((kinV v g w wo sk).2 9 (v.1 2)); rw [a9, if_pos rfl]; exact c0
      · show _ = iI ((kinV v g w wo sk).2 10 (v.1 2)); rw [a10, if_pos rfl]; exact c1
      · show _ = iI ((kinV v g w wo sk).2 11 (v.1 2)); rw [a11, if_pos rfl]; exact c2
    · rw [e _ (by omega), rk i (by omega) c hc]
      rcases hc' with rfl | rfl | rfl
      · show _ = iI ((kinV v g w wo sk).2 9 i); rw [a9, if_neg d]
      · show _ = iI ((kinV v g w wo sk).2 10 i); rw [a10, if_neg d]
      · show _ = iI ((kinV v g w wo sk).2 11 i); rw [a11, if_neg d]
  · rw [kinV_c (by omega), e _ (by omega)]; exact rs i hi c hc
/-- cells of the reference's row -/
abbrev u2 (h : am_H) (i : Nat) (x : Int32) : am_H := am_u h (.inl 0) 2 i x
theorem am_lt2 {α : Type} {h : am_H} {i : Nat} {x : Int32} {f : am_H → α} : am_lt (am_u h (.inl 0) 2 i x) f = f (u2 h i x) := rfl
theorem u2w {h : am_H} {i : Nat} {x : Int32} : Wr [(.inl 0, 2)] h (u2 h i x) := Wr.u (by simp)
theorem m_flo53 (hb : bOk b) (hT : tk_ok b T) (h1 : T.1 = 1) (hv : pvZ v) (h6 : v.1 2 < 6) (R : mo_ps h b v T) : mK (f_X12_readsFlourish_53 (iI (v.1 2)) h) ((sNum b (tkA b T.2.2) 1 99).bd (fun x1 => (sNum b x1.2 1 99).bd (fun x2 => (sNum b x2.2 1 9).bd (fun x3 => .inr (kinV v (wdZ b T) x1.1 x2.1 x3.1, x3.2)))) : Rs (pv_T × Tk)) (TS h) (fun x h' => mo_ps h' b x.1 x.2) := by
  have hA := adv_ok hT
  have h8 := hv.1.1.1
  have hw := R.1.1.2.2.2.2.1 h1
  have i0 : ib ((iI 130 + iI 3 * iI (v.1 2)) + iI 0) 408 := by rw [iI_m, iI_a, iI_a, xI_ib (by omega) (by omega) (by omega)]; trivial
  have i1 : ib ((iI 130 + iI 3 * iI (v.1 2)) + iI 1) 408 := by rw [iI_m, iI_a, iI_a, xI_ib (by omega) (by omega) (by omega)]; trivial
  have i2 : ib ((iI 130 + iI 3 * iI (v.1 2)) + iI 2) 408 := by rw [iI_m, iI_a, iI_a, xI_ib (by omega) (by omega) (by omega)]; trivial
  have j0 : ((iI 130 + iI 3 * iI (v.1 2)) + iI 0).toNatClampNeg = 130 + 3 * v.1 2 := by rw [iI_m, iI_a, iI_a, xI_cl (by omega) (by omega)]; omega
  have j1 : ((iI 130 + iI 3 * iI (v.1 2)) + iI 1).toNatClampNeg = 130 + 3 * v.1 2 + 1 := by rw [iI_m, iI_a, iI_a, xI_cl (by omega) (by omega)]; omega
  have j2 : ((iI 130 + iI 3 * iI (v.1 2)) + iI 2).toNatClampNeg = 130 + 3 * v.1 2 + 2 := by rw [iI_m, iI_a, iI_a, xI_cl (by omega) (by omega)]; omega
  have ib6 : ib (iI (v.1 2)) 6 := by rw [xI_ib (by omega) (by omega) (by omega)]; trivial
  have ib2 : ib (iI 2) 408 := by rw [xI_ib (by omega) (by omega) (by omega)]; trivial
  have c2 : (iI 2).toNatClampNeg = 2 := rfl
  have w1 : Wr [(.inl 0, 7)] h (am_ul h (.inl 0) 7 (v.1 2) (lN (pkN (wdF b T) (T.2.2 - T.2.1)))) := Wr.ul (by simp)
  have t1 := R.1.wr w1 (by simp) (by simp)
  have N1 : ∀ q, q < v.1 2 + 1 → (am_ul h (.inl 0) 7 (v.1 2) (lN (pkN (wdF b T) (T.2.2 - T.2.1)))).2.1 (.inl 0) 7 q = lN (pkN (nmf (kinV v (wdZ b T) 0 0 0) q) 8) := fun q hq => by
    rw [am_ul_self, vpL]
    by_cases c : q = v.1 2
    · rw [if_pos c, ← wdZ_pk hT h1]
      congr 1
      refine (pkN_cg (fun i hi => ?_)).symm
      show (if 14 = 14 ∧ 8 * v.1 2 ≤ 8 * q + i then wdZ b T (8 * q + i - 8 * v.1 2) else _) = _
      rw [if_pos ⟨rfl, by omega⟩, c, Nat.add_sub_cancel_left]
    · rw [if_neg c, R.2.2 q (by omega)]
      congr 1
      refine pkN_cg (fun i hi => ?_)
      show _ = (if 14 = 14 ∧ 8 * v.1 2 ≤ 8 * q + i then _ else v.2 14 (8 * q + i))
      rw [if_neg (by omega)]
  have P1 : mo_pl (am_ul h (.inl 0) 7 (v.1 2) (lN (pkN (wdF b T) (T.2.2 - T.2.1)))) v := R.2.1.eq (w1.1 _ _ (by simp))
  have s1 : TS h (am_ul h (.inl 0) 7 (v.1 2) (lN (pkN (wdF b T) (T.2.2 - T.2.1)))) := TS.w7 w1
  unfold f_X12_readsFlourish_53
  rw [m_good R.1, Option.bind_some, if_neg (by decide), if_pos ib6, am_lt, hw, xI_cl (by omega) (by omega), Int.toNat_natCast]
  generalize am_ul h (.inl 0) 7 (v.1 2) (lN (pkN (wdF b T) (T.2.2 - T.2.1))) = h1 at *
  obtain ⟨h2, e2, t2, k2⟩ := m_next hb hT t1
  have s2 := s1.tr k2.s
  have P2 := P1.tf k2.2
  have N2 : h2.2.1 (.inl 0) 7 = h1.2.1 (.inl 0) 7 := k2.2.2.1 _ _ (by simp)
  rw [e2, Option.bind_some]
  refine mKn.bind (m_number hb hA.1 t2 (by omega) (by omega)) (fun y h' e E f => ?_) (fun x3 y3 h3 q3 t3 f3 => ?_)
  · have E1 := E.wr (u2w (i := 130 + 3 * v.1 2) (x := y)) (by simp)
    have f1 := (s2.tr f.s).tr (TS.w2 (u2w (i := 130 + 3 * v.1 2) (x := y)))
    refine ⟨u2 (u2 (u2 h' (130 + 3 * v.1 2) y) (130 + 3 * v.1 2 + 1) ((u2 h' (130 + 3 * v.1 2) y).1 (.inl 0) 0 7)) (130 + 3 * v.1 2 + 2) ((u2 (u2 h' (130 + 3 * v.1 2) y) (130 + 3 * v.1 2 + 1) ((u2 h' (130 + 3 * v.1 2) y).1 (.inl 0) 0 7)).1 (.inl 0) 0 7), ?_, (E1.wr u2w (by simp)).wr u2w (by simp), (f1.tr (TS.w2 u2w)).tr (TS.w2 u2w)⟩
    dsimp only
    rw [if_pos i0, j0, am_lt2, er_number E1, Option.bind_some, if_pos i1, j1, am_lt2]
    have E2 := E1.wr (u2w (i := 130 + 3 * v.1 2 + 1) (x := (u2 h' (130 + 3 * v.1 2) y).1 (.inl 0) 0 7)) (by simp)
    rw [er_number E2, Option.bind_some, if_pos i2, j2, am_lt2]
    have E3 := E2.wr (u2w (i := 130 + 3 * v.1 2 + 2) (x := (u2 (u2 h' (130 + 3 * v.1 2) y) (130 + 3 * v.1 2 + 1) ((u2 h' (130 + 3 * v.1 2) y).1 (.inl 0) 0 7)).1 (.inl 0) 0 7)) (by simp)
    rw [er_good E3, Option.bind_some, if_pos (by decide)]
  obtain ⟨rfl, t3⟩ := t3
  have o3 := sNum_ok hA.1 q3
  have s3 := (s2.tr f3.s).tr (TS.w2 (u2w (h := h3) (i := 130 + 3 * v.1 2) (x := iI x3.1)))
  have t3' := t3.wr (u2w (i := 130 + 3 * v.1 2) (x := iI x3.1)) (by simp) (by simp)
  have P3 : mo_pl (u2 h3 (130 + 3 * v.1 2) (iI x3.1)) v := mo_rw.cell (k := 130 + 3 * v.1 2) h8.1 h8.2.1 (by omega) (by omega) (fun j hj => by rw [au_s, if_neg hj]) (P2.tf f3.2)
  have q30 : (u2 h3 (130 + 3 * v.1 2) (iI x3.1)).1 (.inl 0) 2 (130 + 3 * v.1 2) = iI x3.1 := by rw [au_s, if_pos rfl]
  have N3 : (u2 h3 (130 + 3 * v.1 2) (iI x3.1)).2.1 (.inl 0) 7 = h1.2.1 (.inl 0) 7 := by
    show h3.2.1 (.inl 0) 7 = _
    rw [f3.2.2.1 _ _ (by simp), N2]
  dsimp only
  rw [if_pos i0, j0, am_lt2]
  generalize u2 h3 (130 + 3 * v.1 2) (iI x3.1) = h4 at *
  refine mKn.bind (m_number hb o3.1 t3' (by omega) (by omega)) (fun y h' e E f => ?_) (fun x5 y5 h5 q5 t5 f5 => ?_)
  · have E1 := E.wr (u2w (i := 130 + 3 * v.1 2 + 1) (x := y)) (by simp)
    have f1 := (s3.tr f.s).tr (TS.w2 (u2w (i := 130 + 3 * v.1 2 + 1) (x := y)))
    refine ⟨u2 (u2 h' (130 + 3 * v.1 2 + 1) y) (130 + 3 * v.1 2 + 2) ((u2 h' (130 + 3 * v.1 2 + 1) y).1 (.inl 0) 0 7), ?_, E1.wr u2w (by simp), f1.tr (TS.w2 u2w)⟩
    dsimp only
    rw [if_pos i1, j1, am_lt2, er_number E1, Option.bind_some, if_pos i2, j2, am_lt2]
    have E2 := E1.wr (u2w (i := 130 + 3 * v.1 2 + 2) (x := (u2 h' (130 + 3 * v.1 2 + 1) y).1 (.inl 0) 0 7)) (by simp)
    rw [er_good E2, Option.bind_some, if_pos (by decide)]
  obtain ⟨rfl, t5⟩ := t5
  have o5 := sNum_ok o3.1 q5
  have s5 := (s3.tr f5.s).tr (TS.w2 (u2w (h := h5) (i := 130 + 3 * v.1 2 + 1) (x := iI x5.1)))
  have t5' := t5.wr (u2w (i := 130 + 3 * v.1 2 + 1) (x := iI x5.1)) (by simp) (by simp)
  have P5 : mo_pl (u2 h5 (130 + 3 * v.1 2 + 1) (iI x5.1)) v := mo_rw.cell (k := 130 + 3 * v.1 2 + 1) h8.1 h8.2.1 (by omega) (by omega) (fun j hj => by rw [au_s, if_neg hj]) (P3.tf f5.2)
  have q50 : (u2 h5 (130 + 3 * v.1 2 + 1) (iI x5.1)).1 (.inl 0) 2 (130 + 3 * v.1 2) = iI x3.1 := by rw [au_s, if_neg (by omega), f5.2.1 _ _ (by simp)]; exact q30
  have q51 : (u2 h5 (130 + 3 * v.1 2 + 1) (iI x5.1)).1 (.inl 0) 2 (130 + 3 * v.1 2 + 1) = iI x5.1 := by rw [au_s, if_pos rfl]
  have N5 : (u2 h5 (130 + 3 * v.1 2 + 1) (iI x5.1)).2.1 (.inl 0) 7 = h1.2.1 (.inl 0) 7 := by
    show h5.2.1 (.inl 0) 7 = _
    rw [f5.2.2.1 _ _ (by simp), N3]
  dsimp only
  rw [if_pos i1, j1, am_lt2]
  generalize u2 h5 (130 + 3 * v.1 2 + 1) (iI x5.1) = h6 at *
  refine mKn.bind (m_number hb o5.1 t5' (by omega) (by omega)) (fun y h' e E f => ?_) (fun x7 y7 h7 q7 t7 f7 => ?_)
  · have E1 := E.wr (u2w (i := 130 + 3 * v.1 2 + 2) (x := y)) (by simp)
    refine ⟨u2 h' (130 + 3 * v.1 2 + 2) y, ?_, E1, (s5.tr f.s).tr (TS.w2 u2w)⟩
    dsimp only
    rw [if_pos i2, j2, am_lt2, er_good E1, Option.bind_some, if_pos (by decide)]
  obtain ⟨rfl, t7⟩ := t7
  have s7 := (s5.tr f7.s).tr (TS.w2 (u2w (h := h7) (i := 130 + 3 * v.1 2 + 2) (x := iI x7.1)))
  have t7' := t7.wr (u2w (i := 130 + 3 * v.1 2 + 2) (x := iI x7.1)) (by simp) (by simp)
  have P7 : mo_pl (u2 h7 (130 + 3 * v.1 2 + 2) (iI x7.1)) v := mo_rw.cell (k := 130 + 3 * v.1 2 + 2) h8.1 h8.2.1 (by omega) (by omega) (fun j hj => by rw [au_s, if_neg hj]) (P5.tf f7.2)
  have q70 : (u2 h7 (130 + 3 * v.1 2 + 2) (iI x7.1)).1 (.inl 0) 2 (130 + 3 * v.1 2) = iI x3.1 := by rw [au_s, if_neg (by omega), f7.2.1 _ _ (by simp)]; exact q50
  have q71 : (u2 h7 (130 + 3 * v.1 2 + 2) (iI x7.1)).1 (.inl 0) 2 (130 + 3 * v.1 2 + 1) = iI x5.1 := by rw [au_s, if_neg (by omega), f7.2.1 _ _ (by simp)]; exact q51
  have q72 : (u2 h7 (130 + 3 * v.1 2 + 2) (iI x7.1)).1 (.inl 0) 2 (130 + 3 * v.1 2 + 2) = iI x7.1 := by rw [au_s, if_pos rfl]
  have N7 : (u2 h7 (130 + 3 * v.1 2 + 2) (iI x7.1)).2.1 (.inl 0) 7 = h1.2.1 (.inl 0) 7 := by
    show h7.2.1 (.inl 0) 7 = _
    rw [f7.2.2.1 _ _ (by simp), N5]
  dsimp only
  rw [if_pos i2, j2, am_lt2]
  generalize u2 h7 (130 + 3 * v.1 2 + 2) (iI x7.1) = h9 at *
  have r2 : h9.1 (.inl 0) 2 2 = iI (v.1 2) := P7.1.2.2.1
  rw [m_good t7', Option.bind_some, if_neg (by decide), if_pos ib2, if_pos ib2, c2, r2, am_lt2, iI_a]
  have w9 := u2w (h := h9) (i := 2) (x := iI ((v.1 2 : Int) + 1))
  refine ⟨_, rfl, ⟨t7'.wr w9 (by simp) (by simp), mo_rw.kinX h8.1 h8.2.1 (by omega) (fun j hj => by rw [au_s, if_neg hj]) (by rw [au_s, if_pos rfl]) (by rw [au_s, if_neg (by omega)]; exact q70) (by rw [au_s, if_neg (by omega)]; exact q71) (by rw [au_s, if_neg (by omega)]; exact q72) P7, fun q hq => ?_⟩, s7.tr (TS.w2 w9)⟩
  have hq' : q < v.1 2 + 1 := hq
  show h9.2.1 (.inl 0) 7 q = _
  rw [N7]
  exact N1 q hq'
theorem m_readsFlo (hb : bOk b) (hT : tk_ok b T) (hv : pvZ v) (h4 : T.1 ≠ 4) (R : mo_ps h b v T) : mK (f_X12_readsFlourish h) (sFlo b v T) (TS h) (fun x h' => mo_ps h' b x.1 x.2) := by
  have hA := adv_ok hT
  have h8 := hv.1.1.1
  have r2 := R.2.1.1.2.2.1
  have ib2 : ib (iI 2) 408 := by rw [xI_ib (by omega) (by omega) (by omega)]; trivial
  have c2 : (iI 2).toNatClampNeg = 2 := rfl
  unfold sFlo f_X12_readsFlourish
  rw [if_pos ib2, c2, r2]
  by_cases c6 : 6 ≤ v.1 2
  · obtain ⟨h1, e1, t, k⟩ := m_wrong hT R.1 (c := 5) (by omega)
    rw [if_neg h4] at t
    have e8 : v.1 2 = 6 := by omega
    rw [if_pos c6, if_pos (by rw [e8]; rfl), e1, Option.bind_some, er_good t, Option.bind_some, if_pos (by decide), er_flo29 t]
    exact ⟨h1, rfl, t, k.s⟩
  · obtain ⟨h1, e1, t1, k1⟩ := m_next hb hT R.1
    have R1 : mo_ps h1 b v (tkA b T.2.2) := R.tf k1 t1
    rw [if_neg c6, if_neg (by rw [xI_eq (by omega) (by omega) (by omega) (by omega)]; omega), m_good R.1, Option.bind_some, if_neg (by decide), e1, Option.bind_some]
    have hm := m_mustBe hA.1 t1
    unfold f_X12_readsFlourish_29
    by_cases c : (tkA b T.2.2).1 = 1
    · rw [if_pos c] at hm ⊢
      obtain ⟨h2, e2, rfl, k2⟩ := hm
      have hw := t1.1.2.2.2.2.1 c
      rw [← wdZ_pk hA.1 c] at hw
      obtain ⟨y, ey, y1, y2, y3⟩ := m_named (f := wdZ b (tkA b T.2.2)) hv.1 (wdZ_nm hA.1 c) R1.2.1 R1.2.2 hw
      rw [e2, Option.bind_some, m_good t1, Option.bind_some, if_neg (by decide), ey, Option.bind_some]
      by_cases d : takN v (wdZ b (tkA b T.2.2)) = true
      · obtain ⟨h3, e3, t3, k3⟩ := m_wrong hA.1 t1 (c := 3) (by omega)
        rw [if_neg (by omega)] at t3
        have hy : ¬ y = -1 := fun z => y3.mp z d
        rw [if_pos d, if_neg (by rw [xI_eq (by omega) (by omega) (by omega) (by omega)]; exact hy), e3, Option.bind_some, er_flo53 t3]
        exact ⟨h3, rfl, t3, (k1.tr k3).s⟩
      · have hy : y = -1 := y3.mpr d
        rw [if_neg d, hy, if_pos rfl]
        exact (m_flo53 hb hA.1 c hv (by omega) R1).mono (fun _ f => k1.s.tr f) (fun _ _ q _ => q)
    · rw [if_neg c] at hm ⊢
      obtain ⟨h2, e2, t2, k2⟩ := hm
      rw [e2, Option.bind_some, er_good t2, Option.bind_some, if_pos (by decide), er_flo53 t2]
      exact ⟨h2, rfl, t2, (k1.tr k2).s⟩
end MFL
