/-! both sides hold the same numbers (without scratches) -/
theorem tmb {a : Int} : -3600 < a.tmod 3600 ∧ a.tmod 3600 < 3600 := by
  rcases Int.le_total 0 a with h0 | h0
  · rw [Int.tmod_eq_emod_of_nonneg h0]
    omega
  · have e : a.tmod 3600 = -((-a).tmod 3600) := by rw [Int.neg_tmod, Int.neg_neg]
    rw [e, Int.tmod_eq_emod_of_nonneg (by omega)]
    omega
theorem tm36 {a : Int} (h1 : -100000 ≤ a) (h2 : a ≤ 100000) : (a.tmod 3600 + 3600) % 3600 = a % 3600 ∧ 0 < a.tmod 3600 + 3600 ∧ a.tmod 3600 + 3600 < 7200 := by
  have h3 := tmb (a := a)
  refine ⟨?_, by omega, by omega⟩
  rw [Int.tmod_def]
  generalize a.tdiv 3600 = q
  omega
theorem hd36 {a : Int} (h1 : -100000 ≤ a) (h2 : a ≤ 100000) : ((iI a - iI a / iI 3600 * iI 3600) + iI 3600) - ((iI a - iI a / iI 3600 * iI 3600) + iI 3600) / iI 3600 * iI 3600 = iI (a % 3600) := by
  have h := tm36 h1 h2
  rw [xI_tm h1 h2, iI_a, xI_rn (by omega) (by omega) (by omega) (by omega), h.1]
section ALI
variable {X : dm_X} {d d0 : dm_D} {st : St} {w A k : Nat} {tx : am_v} {N : Nat → Nat} {M : Nat → Int32} {E : Nat → am_G × Nat} {F : Nat → Nat → Nat} {u : Nat → Int32} {P : Int32 × am_H × dm_D → Prop} {x2 : Int32}
theorem st_w {d' : dm_D} {c : Nat} (E1 : Ext c d d') (hA : d.1 ≤ A) (a : dAr d' A 0 13 u) (p : Nat) (hp : p < 13) (y : Int32) : ∃ d2, dm_wi d' (.inl 0, A) 0 (iI (p : Int)) y = some d2 ∧ Ext c d d2 ∧ dAr d2 A 0 13 (upd u p y) := ⟨_, wik a hp (by omega), E1.se hA, dAr.se a.1⟩
theorem oDg_e (hk : k < st.1.1 1) : oDg st k = .inl (iI (pv_dg st.1 k)) := by unfold oDg; rw [if_pos (by omega), Int.toNat_natCast]
theorem al214 (ok : Ok st) (hf : dm_full d) (R : WR d w st.1 tx N M E F) (hk : k < st.1.1 1) (hb : d.2.1 + 5 ≤ dm_L) (a : dAr d A 0 13 u) (hu : ∀ i : Nat, i < 13 → oLet st k i = .inl (u i)) (K : ∀ h' d', ClR h' st → Ext 5 d d' → Aok P (F_L_alike_4 X (.inl 0, w) x2 (iI k + 1) h' d')) : ∀ (m i : Nat) (h : am_H), i + m = 13 → ClR h st → Aok P (F_L_alike_214 X (.inl 0, w) x2 (iI k) (.inl 0, A) (iI i) h d) := by
  have hv := ok.1.1
  have h8 := hv.1
  have hg := hv.2.2.2.2.2.2
  intro m
  induction m with
  | zero =>
    intro i h hi C
    obtain rfl : i = 13 := by omega
    have hd := pv_hd_b hv (pv_ct st.1 k)
    obtain ⟨d', e, E1⟩ := hard_ok (X := X) hv hk R hb
    rw [E_L_alike_214]
    refine Aok.t (by decide) ?_
    refine Aok.cr (cl_danger ok C (r := (k : Int)) (by omega)) (oDg_e hk) hf ?_
    refine Aok.b (rk_at R.1) ?_
    refine Aok.b e ?_
    refine Aok.b (fi_at (R.ext E1).1 rfl) ?_
    refine Aok.b (a := iI (if 100 ≤ 2 * (pv_hd st.1 (pv_ct st.1 k) - st.1.2 0 0) then 100 else 2 * (pv_hd st.1 (pv_ct st.1 k) - st.1.2 0 0))) (show F_J9_min_7cf53 (iI 100) (iI 2 * (iI _ - iI _)) = _ by rw [iI_s, iI_m, min_J9 (by omega) (by omega) (by omega) (by omega)]) ?_
    refine Aok.b (max_J9 (by omega) (by omega) (by split <;> omega) (by split <;> omega)) ?_
    refine Aok.t ?_ ?_
    · congr 1
      unfold pv_dg
      split <;> (repeat' split) <;> omega
    · exact K h d' C E1
  | succ m ih =>
    intro i h hi C
    rw [E_L_alike_214]
    refine Aok.f (by rw [xI_le (by omega) (by omega) (by omega) (by omega)]; omega) ?_
    refine Aok.cv (cl_letter ok C (a := (k : Int)) (t := (i : Int)) (by omega) (by omega)) (hu i (by omega)) hf (fun h1 C1 => ?_)
    refine Aok.b (lik a i (by omega) (by omega)) ?_
    refine Aok.t rfl ?_
    rw [iS]
    exact ih (i + 1) h1 (by omega) C1
theorem al46 {h : am_H} (ok : Ok st) (hf : dm_full d) (C : ClR h st) (h0 : st.1.1 3 = 0) (R : WR d w st.1 tx N M E F) (hk : k < st.1.1 1) (hb : d.2.1 + 79 ≤ dm_L) (K : ∀ h' d', ClR h' st → Ext 79 d d' → Aok P (F_L_alike_4 X (.inl 0, w) (iI 0) (iI k + 1) h' d')) : Aok P (F_L_alike_46 X (.inl 0, w) (iI k) (.inl 0, F 2 k) (iI 0) (iI 0) h d) := by
  have hv := ok.1.1
  have h8 := hv.1
  have h5 := hv.2.2.1 k hk
  have hct := pv_ct_b hv hk
  have hwT := pv_tW_b hv
  have ht : 0 ≤ pv_ct st.1 k ∧ pv_ct st.1 k < 2147483648 := by omega
  have hbT := pv_bT_b hv (t := pv_ct st.1 k) (Nat.le_refl (st.1.1 0))
  obtain ⟨g, o, g0, g1, g2⟩ := R.2.2.2.2.1 k hk
  obtain ⟨f, b1, b2⟩ := R.2.1
  obtain ⟨d1, q1, E1⟩ := centre_ok (X := X) hv hk R (by omega)
  obtain ⟨d2, q2, E2⟩ := bend_ok (X := X) hv ht (R.ext E1) (by have := E1.2.1; omega)
  replace E2 := E1.tr E2
  rw [E_L_alike_46]
  refine Aok.b (rk_at R.1) ?_
  refine Aok.b q1 ?_
  refine Aok.b (rk_at (R.ext E1).1) ?_
  refine Aok.b q2 ?_
  refine Aok.f (by decide) ?_
  refine Aok.f (by decide) ?_
  refine Aok.b (na_at (by omega) (by omega) (by have := E2.2.1; show d2.2.1 + 13 + 1 ≤ _; omega)) ?_
  have hA : d.1 ≤ d2.1 := E2.1
  have a3 : dAr (dm_nw d2 13 (.inr (.inl (0, 13, fun _ => 0)))) d2.1 0 13 (fun _ => 0) := dAr.nw
  have E3 : Ext (5 + 5 + 14) d (dm_nw d2 13 (.inr (.inl (0, 13, fun _ => 0)))) := E2.tr Ext.nw
  show Aok P _
  revert a3 E3
  show dAr (dm_nw d2 (Int.toNat 13) (.inr (.inl (0, Int.toNat 13, fun _ => 0)))) d2.1 0 13 (fun _ => 0) → Ext (5 + 5 + 14) d (dm_nw d2 (Int.toNat 13) (.inr (.inl (0, Int.toNat 13, fun _ => 0)))) → _
  generalize dm_nw d2 (Int.toNat 13) (.inr (.inl (0, Int.toNat 13, fun _ => 0))) = d3
  intro a3 E3
  have hl : ∀ (d' : dm_D) (c : Nat), Ext c d d' → dm_li X d' (.inl 0, N 0) (g 0) = some (f (st.1.2 5 k).toNat) := fun d' c E' => by
    rw [g0, li_at (E'.ar b1) (by rw [xI_ib (by omega) (by omega) (by omega)]; trivial), xI_cl (by omega) (by omega)]
  obtain ⟨d4, q4, E4, a4⟩ := st_w E3 hA a3 0 (by omega) (g 0)
  refine Aok.b (li0 (E3.ar o) rfl rfl) ?_
  refine Aok.b q4 ?_
  refine Aok.b (fr_at (R.ext E4).1 rfl) ?_
  refine Aok.b (li0 (E4.ar o) rfl rfl) ?_
  refine Aok.b (hl d4 _ E4) ?_
  obtain ⟨d5, q5, E5, a5⟩ := st_w E4 hA a4 1 (by omega) (iI 1000 * f (st.1.2 5 k).toNat)
  refine Aok.b q5 ?_
  refine Aok.b (rk_at (R.ext E5).1) ?_
  obtain ⟨d6, q6, E6⟩ := centre_ok (X := X) hv hk (R.ext E5) (by have := E5.2.1; omega)
  refine Aok.b q6 ?_
  replace a5 := E6.ar a5
  replace E6 := E5.tr E6
  obtain ⟨d7, q7, E7, a7⟩ := st_w E6 hA a5 2 (by omega) (iI (pv_ct st.1 k))
  refine Aok.b q7 ?_
  refine Aok.b (rk_at (R.ext E7).1) ?_
  obtain ⟨d8, q8, E8⟩ := centre_ok (X := X) hv hk (R.ext E7) (by have := E7.2.1; omega)
  refine Aok.b q8 ?_
  replace a7 := E8.ar a7
  replace E8 := E7.tr E8
  refine Aok.b (rk_at (R.ext E8).1) ?_
  obtain ⟨d9, q9, E9⟩ := parts_ok (X := X) hv ht (R.ext E8) (by have := E8.2.1; omega)
  refine Aok.b q9 ?_
  replace a7 := E9.ar a7
  replace E9 := E8.tr E9
  obtain ⟨d10, q10, E10, a10⟩ := st_w E9 hA a7 3 (by omega) (iI (pv_pT st.1 (pv_ct st.1 k) (st.1.1 0)))
  refine Aok.b q10 ?_
  refine Aok.b (rk_at (R.ext E10).1) ?_
  obtain ⟨d11, q11, E11⟩ := edge_ok (X := X) hv hk (x := -1) (R.ext E10) (by have := E10.2.1; omega)
  refine Aok.b q11 ?_
  replace a10 := E11.ar a10
  replace E11 := E10.tr E11
  obtain ⟨d12, q12, E12, a12⟩ := st_w E11 hA a10 4 (by omega) (iI (pv_cp st.1 k + -1 * 500 * pv_w st.1 k))
  refine Aok.b q12 ?_
  refine Aok.b (rk_at (R.ext E12).1) ?_
  obtain ⟨d13, q13, E13⟩ := edge_ok (X := X) hv hk (x := 1) (R.ext E12) (by have := E12.2.1; omega)
  refine Aok.b q13 ?_
  replace a12 := E13.ar a12
  replace E13 := E12.tr E13
  obtain ⟨d14, q14, E14, a14⟩ := st_w E13 hA a12 5 (by omega) (iI (pv_cp st.1 k + 1 * 500 * pv_w st.1 k))
  refine Aok.b q14 ?_
  obtain ⟨d15, q15, E15, a15⟩ := st_w E14 hA a14 6 (by omega) (iI (pv_bT st.1 (pv_ct st.1 k) (st.1.1 0) % 3600))
  refine Aok.b ((congrArg (dm_wi d14 (.inl 0, d2.1) 0 (iI 6)) (hd36 (by omega) (by omega))).trans q15) ?_
  refine Aok.b (rk_at (R.ext E15).1) ?_
  obtain ⟨d16, q16, E16⟩ := centre_ok (X := X) hv hk (R.ext E15) (by have := E15.2.1; omega)
  refine Aok.b q16 ?_
  replace a15 := E16.ar a15
  replace E16 := E15.tr E16
  refine Aok.b (rk_at (R.ext E16).1) ?_
  refine Aok.b (arcAt_ok hv ht (R.ext E16)) ?_
  obtain ⟨d17, q17, E17, a17⟩ := st_w E16 hA a15 7 (by omega) (iI (pv_ar st.1 (pv_ct st.1 k)))
  refine Aok.b q17 ?_
  refine Aok.b (li1 (E17.ar o) rfl rfl) ?_
  obtain ⟨d18, q18, E18, a18⟩ := st_w E17 hA a17 8 (by omega) (g 1)
  refine Aok.b q18 ?_
  refine Aok.b (rk_at (R.ext E18).1) ?_
  obtain ⟨d19, q19, E19⟩ := isSp_ok (X := X) h0 (x := iI k) (R.ext E18) (by have := E18.2.1; omega)
  refine Aok.b q19 ?_
  replace a18 := E19.ar a18
  replace E19 := E18.tr E19
  refine Aok.t (show iI 0 = (0 : Int32) from rfl) ?_
  rw [E_L_alike_179]
  obtain ⟨d20, q20, E20, a20⟩ := st_w E19 hA a18 9 (by omega) (iI 0)
  refine Aok.b q20 ?_
  refine Aok.b (li0 (E20.ar o) rfl rfl) ?_
  refine Aok.f (by decide) ?_
  obtain ⟨d21, q21, E21, a21⟩ := st_w E20 hA a20 10 (by omega) (iI (1 + st.1.2 5 k % 4))
  refine Aok.b (a := d21) (by rw [g0, xI_rn (by omega) (by omega) (by omega) (by omega), iI_a]; exact q21) ?_
  refine Aok.b (li2 (E21.ar o) rfl rfl) ?_
  obtain ⟨d22, q22, E22, a22⟩ := st_w E21 hA a21 11 (by omega) (g 2)
  refine Aok.b q22 ?_
  refine Aok.b (rk_at (R.ext E22).1) ?_
  obtain ⟨d23, q23, E23⟩ := scrOf_ok (X := X) hv (a := k) (by omega) (R.ext E22) (by have := E22.2.1; omega)
  refine Aok.b q23 ?_
  replace a22 := E23.ar a22
  replace E23 := E22.tr E23
  obtain ⟨d24, q24, E24, a24⟩ := st_w E23 hA a22 12 (by omega) (iI (cN (fun j => decide (st.1.2 12 j = (k : Int))) (st.1.1 3)))
  refine Aok.b q24 ?_
  refine al214 ok (E24.full hf) (R.ext E24) hk (by have := E24.2.1; omega) a24 (fun i hi => ?_) (fun h' d' C' E' => K h' d' C' (E24.tr E')) 13 0 h rfl C
  have z9 : iI (bI (pv_iS st.1 (k : Int))) = iI 0 := by rw [show bI (pv_iS st.1 (k : Int)) = 0 from if_neg (by unfold pv_iS; rw [h0]; exact Nat.not_lt_zero _)]
  match i, hi with
  | 0, _ => exact (oLet_0 hk).trans (congrArg Sum.inl g0.symm)
  | 1, _ => exact (oLet_1 hk).trans (congrArg Sum.inl (show iI (1000 * pv_w st.1 k) = iI 1000 * f (st.1.2 5 k).toNat by rw [b2 _ (by omega), iI_m]; rfl))
  | 2, _ => exact oLet_2 hk
  | 3, _ => exact oLet_3 hk
  | 4, _ => exact (oLet_4 hk).trans (congrArg Sum.inl (show iI (pv_le st.1 k) = iI (pv_cp st.1 k + -1 * 500 * pv_w st.1 k) by unfold pv_le; congr 1; omega))
  | 5, _ => exact (oLet_5 hk).trans (congrArg Sum.inl (show iI (pv_re st.1 k) = iI (pv_cp st.1 k + 1 * 500 * pv_w st.1 k) by unfold pv_re; first | rfl | (congr 1; omega)))
  | 6, _ => exact oLet_6 hk
  | 7, _ => exact oLet_7 hk
  | 8, _ => exact (oLet_8 hk).trans (congrArg Sum.inl g1.symm)
  | 9, _ => exact (oLet_9 hk).trans (congrArg Sum.inl z9)
  | 10, _ => exact oLet_10 hk
  | 11, _ => exact (oLet_11 hk).trans (congrArg Sum.inl g2.symm)
  | 12, _ => exact oLet_12 hk
theorem al487 (ok : Ok st) (hf : dm_full d) (a : dAr d A 0 13 u) (hu : ∀ i : Nat, i < 13 → oSet st i = .inl (u i)) (E1 : Ext 1720 d0 d) : ∀ (m i : Nat) (h : am_H), i + m = 13 → ClR h st → Aok (HP st d0 1720) (F_L_alike_487 X (.inl 0, A) (iI i) h d) := by
  intro m
  induction m with
  | zero =>
    intro i h hi C
    obtain rfl : i = 13 := by omega
    rw [E_L_alike_487]
    refine Aok.t (by decide) ?_
    exact Aok.fin ⟨rfl, C, E1⟩
  | succ m ih =>
    intro i h hi C
    rw [E_L_alike_487]
    refine Aok.f (by rw [xI_le (by omega) (by omega) (by omega) (by omega)]; omega) ?_
    refine Aok.cv (cl_setting ok C (t := (i : Int)) (by omega)) (hu i (by omega)) hf (fun h1 C1 => ?_)
    refine Aok.b (lik a i (by omega) (by omega)) ?_
    refine Aok.t rfl ?_
    rw [iS]
    exact ih (i + 1) h1 (by omega) C1
theorem al283 {h : am_H} {c : Nat} (ok : Ok st) (hf : dm_full d0) (C : ClR h st) (h0 : st.1.1 3 = 0) (R : WR d0 w st.1 tx N M E F) (E0 : Ext c d0 d) (hc : c ≤ 1680) (hb : d0.2.1 + 1720 ≤ dm_L) : Aok (HP st d0 1720) (F_L_alike_283 X (.inl 0, w) (iI 0) (iI 0) h d) := by
  have hv := ok.1.1
  have h8 := hv.1
  have hwT := pv_tW_b hv
  have R0 := R.ext E0
  rw [E_L_alike_283]
  refine Aok.b (fr_at R0.1 rfl) ?_
  refine Aok.b (rk_at R0.scr.1) ?_
  refine Aok.b (size_at R0.scr) ?_
  refine Aok.t (by rw [h0]; decide) ?_
  refine Aok.b (na_at (by omega) (by omega) (by have := E0.2.1; show d.2.1 + 13 + 1 ≤ _; omega)) ?_
  have hA : d0.1 ≤ d.1 := E0.1
  have a3 : dAr (dm_nw d 13 (.inr (.inl (0, 13, fun _ => 0)))) d.1 0 13 (fun _ => 0) := dAr.nw
  have E3 : Ext (c + 14) d0 (dm_nw d 13 (.inr (.inl (0, 13, fun _ => 0)))) := E0.tr Ext.nw
  revert a3 E3
  show dAr (dm_nw d (Int.toNat 13) (.inr (.inl (0, Int.toNat 13, fun _ => 0)))) d.1 0 13 (fun _ => 0) → Ext (c + 14) d0 (dm_nw d (Int.toNat 13) (.inr (.inl (0, Int.toNat 13, fun _ => 0)))) → _
  generalize dm_nw d (Int.toNat 13) (.inr (.inl (0, Int.toNat 13, fun _ => 0))) = d3
  intro a3 E3
  refine Aok.b (fr_at (R.ext E3).1 rfl) ?_
  refine Aok.b (rk_at (R.ext E3).arc.1) ?_
  refine Aok.b (size_at (R.ext E3).arc) ?_
  obtain ⟨d4, q4, E4, a4⟩ := st_w E3 hA a3 0 (by omega) (iI (st.1.1 0))
  refine Aok.b q4 ?_
  refine Aok.b (fr_at (R.ext E4).1 rfl) ?_
  refine Aok.b (rk_at (R.ext E4).let.1) ?_
  refine Aok.b (size_at (R.ext E4).let) ?_
  obtain ⟨d5, q5, E5, a5⟩ := st_w E4 hA a4 1 (by omega) (iI (st.1.1 1))
  refine Aok.b q5 ?_
  have hkd : ∀ {d' : dm_D}, WR d' w st.1 tx N M E F → LiE d' (N 3) (M 3) (E 3) (st.1.1 2) (F 3) := fun R' => R'.2.2.1.2.2.1
  refine Aok.b (fr_at (R.ext E5).1 rfl) ?_
  refine Aok.b (rk_at (hkd (R.ext E5)).1) ?_
  refine Aok.b (size_at (hkd (R.ext E5))) ?_
  obtain ⟨d6, q6, E6, a6⟩ := st_w E5 hA a5 2 (by omega) (iI (st.1.1 2))
  refine Aok.b q6 ?_
  refine Aok.b (rk_at (R.ext E6).1) ?_
  obtain ⟨d7, q7, E7⟩ := whole_ok (X := X) (R.ext E6) (by have := E6.2.1; omega)
  refine Aok.b q7 ?_
  replace a6 := E7.ar a6
  replace E7 := E6.tr E7
  obtain ⟨d8, q8, E8, a8⟩ := st_w E7 hA a6 3 (by omega) (iI (pv_wT st.1))
  refine Aok.b q8 ?_
  refine Aok.b (rk_at (R.ext E8).1) ?_
  obtain ⟨d9, q9, E9⟩ := whole_ok (X := X) (R.ext E8) (by have := E8.2.1; omega)
  refine Aok.b q9 ?_
  replace a8 := E9.ar a8
  replace E9 := E8.tr E9
  refine Aok.b (rk_at (R.ext E9).1) ?_
  obtain ⟨d10, q10, E10⟩ := parts_ok (X := X) hv (t := pv_wT st.1) (by omega) (R.ext E9) (by have := E9.2.1; omega)
  rw [pT_wT hv] at q10
  refine Aok.b q10 ?_
  replace a8 := E10.ar a8
  replace E10 := E9.tr E10
  obtain ⟨d11, q11, E11, a11⟩ := st_w E10 hA a8 4 (by omega) (iI (pv_wP st.1))
  refine Aok.b q11 ?_
  refine Aok.b (fi_at (R.ext E11).1 rfl) ?_
  obtain ⟨d12, q12, E12, a12⟩ := st_w E11 hA a11 5 (by omega) (iI (st.1.2 0 0))
  refine Aok.b q12 ?_
  refine Aok.b (fi_at (R.ext E12).1 rfl) ?_
  obtain ⟨d13, q13, E13, a13⟩ := st_w E12 hA a12 6 (by omega) (iI (st.1.2 0 1))
  refine Aok.b q13 ?_
  refine Aok.b (fr_at (R.ext E13).1 rfl) ?_
  refine Aok.b (rk_at (R.ext E13).scr.1) ?_
  refine Aok.b (size_at (R.ext E13).scr) ?_
  obtain ⟨d14, q14, E14, a14⟩ := st_w E13 hA a13 7 (by omega) (iI (st.1.1 3))
  refine Aok.b q14 ?_
  refine Aok.b (rk_at (R.ext E14).1) ?_
  obtain ⟨d15, q15, E15⟩ := engraved_ok (X := X) hv (R.ext E14) (by have := E14.2.1; omega)
  refine Aok.b q15 ?_
  replace a14 := E15.ar a14
  replace E15 := E14.tr E15
  obtain ⟨d16, q16, E16, a16⟩ := st_w E15 hA a14 8 (by omega) (iI (cN (fun j => decide (st.1.2 6 j = 1)) (st.1.1 1)))
  refine Aok.b q16 ?_
  obtain ⟨d17, q17, E17, a17⟩ := st_w E16 hA a16 9 (by omega) (iI 0)
  refine Aok.b q17 ?_
  refine Aok.b (fi_at (R.ext E17).1 rfl) ?_
  obtain ⟨d18, q18, E18, a18⟩ := st_w E17 hA a17 10 (by omega) (iI (st.1.2 0 2))
  refine Aok.b q18 ?_
  refine Aok.b (fi_at (R.ext E18).1 rfl) ?_
  obtain ⟨d19, q19, E19, a19⟩ := st_w E18 hA a18 11 (by omega) (iI (st.1.2 0 3))
  refine Aok.b q19 ?_
  refine Aok.b (fi_at (R.ext E19).1 rfl) ?_
  obtain ⟨d20, q20, E20, a20⟩ := st_w E19 hA a19 12 (by omega) (iI (st.1.2 0 4))
  refine Aok.b q20 ?_
  have E21 := E20.le (show _ ≤ 1720 by omega)
  refine al487 ok (E21.full hf) a20 (fun i hi => ?_) E21 13 0 h rfl C
  have z9 : cN (fun j => decide (pv_iS st.1 j)) (st.1.1 1) = 0 := cN_0 _ (fun j _ => decide_eq_false (by unfold pv_iS; rw [h0]; exact Nat.not_lt_zero _))
  match i, hi with
  | 0, _ => rfl
  | 1, _ => rfl
  | 2, _ => rfl
  | 3, _ => rfl
  | 4, _ => rfl
  | 5, _ => rfl
  | 6, _ => rfl
  | 7, _ => rfl
  | 8, _ => rfl
  | 9, _ => exact (show oSet st 9 = .inl (iI (cN (fun j => decide (pv_iS st.1 j)) (st.1.1 1))) from rfl).trans (by rw [z9]; rfl)
  | 10, _ => rfl
  | 11, _ => rfl
  | 12, _ => rfl
theorem al4 (ok : Ok st) (hf : dm_full d0) (h0 : st.1.1 3 = 0) (R : WR d0 w st.1 tx N M E F) (hb : d0.2.1 + 1720 ≤ dm_L) : ∀ (m k : Nat) (h : am_H) (d : dm_D), k + m = st.1.1 1 → ClR h st → Ext (84 * k) d0 d → Aok (HP st d0 1720) (F_L_alike_4 X (.inl 0, w) (iI 0) (iI k) h d) := by
  have hv := ok.1.1
  have h8 := hv.1
  intro m
  induction m with
  | zero =>
    intro k h d hk C E0
    have R0 := R.ext E0
    rw [E_L_alike_4]
    refine Aok.b (fr_at R0.1 rfl) ?_
    refine Aok.b (rk_at R0.let.1) ?_
    refine Aok.b (size_at R0.let) ?_
    refine Aok.t (by rw [xI_le (by omega) (by omega) (by omega) (by omega)]; omega) ?_
    exact al283 ok hf C h0 R E0 (by omega) hb
  | succ m ih =>
    intro k h d hk C E0
    have R0 := R.ext E0
    have hk2 : k < st.1.1 1 := by omega
    obtain ⟨g, o, g0, g1, g2⟩ := R0.2.2.2.2.1 k hk2
    rw [E_L_alike_4]
    refine Aok.b (fr_at R0.1 rfl) ?_
    refine Aok.b (rk_at R0.let.1) ?_
    refine Aok.b (size_at R0.let) ?_
    refine Aok.f (by rw [xI_le (by omega) (by omega) (by omega) (by omega)]; omega) ?_
    refine Aok.b (fr_at R0.1 rfl) ?_
    refine Aok.b (rk_at R0.let.1) ?_
    refine Aok.b (get_at R0.let hk2) ?_
    refine Aok.b (ck_at o) ?_
    refine Aok.b (rk_at R0.1) ?_
    obtain ⟨d1, q1, E1⟩ := isSp_ok (X := X) h0 (x := iI k) R0 (by have := E0.2.1; omega)
    refine Aok.b q1 ?_
    replace E1 := E0.tr E1
    refine Aok.t (show iI 0 = (0 : Int32) from rfl) ?_
    refine al46 ok (E1.full hf) C h0 (R.ext E1) hk2 (by have := E1.2.1; show d1.2.1 + 79 ≤ _; omega) (fun h' d' C' E' => ?_)
    rw [iS]
    exact ih (k + 1) h' d' (by omega) C' ((E1.tr E').le (by omega))
theorem alike_ok {h : am_H} (ok : Ok st) (hf : dm_full d) (C : ClR h st) (h0 : st.1.1 3 = 0) (R : WR d w st.1 tx N M E F) (hb : d.2.1 + 1720 ≤ dm_L) : Aok (HP st d 1720) (F_L_alike X (.inl 0, w) h d) := by
  unfold F_L_alike
  exact al4 ok hf h0 R hb (st.1.1 1) 0 h d (Nat.zero_add _) C Ext.rf
end ALI
