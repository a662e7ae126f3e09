/-! statements read, the program's -/
section CRD
variable {h : am_H} {b : bfT} {T : Tk} {v : pv_T}
theorem k_readArc (hb : bOk b) (hT : tk_ok b T) (hv : pvZ v) (R : cl_tk h b T) (P : cl_pl h 1 v) : cK (f_X9_readArc 1 h) (sArc b v T) (fun x h' => cl_tk h' b x.2 ∧ cl_pl h' 1 x.1) := by
  have hA := adv_ok hT
  have r0 := P.1.1
  have h8 := hv.1.1.1.1
  unfold sArc f_X9_readArc
  by_cases c : 8 ≤ v.1 0
  · rw [if_pos c, r0, if_neg (by rw [xI_lt (by omega) (by omega) (by omega) (by omega)]; omega)]
    exact k_failz R
  · rw [if_neg c, r0, if_pos (by rw [xI_lt (by omega) (by omega) (by omega) (by omega)]; omega)]
    obtain ⟨h1, e1, t1, -⟩ := k_advance hb hT R
    have P1 := P.eq ((wr_X10_advance e1).P (k := 1) (by simp))
    rw [e1, Option.bind_some]
    refine cK.bind ((k_takeNumber hb hA.1 t1 (by omega) (by omega)).wr (fun a e => wr_X10_takeNumber e)) (fun x2 h2 s2 q2 => ?_)
    obtain ⟨⟨t2, n2⟩, w2⟩ := q2
    have o2 := sNum_ok hA.1 s2
    have P2 := P1.eq (w2.P (k := 1) (by simp))
    refine cK.bind ((k_takeNumber hb o2.1 t2 (by omega) (by omega)).wr (fun a e => wr_X10_takeNumber e)) (fun x3 h3 s3 q3 => ?_)
    obtain ⟨⟨t3, n3⟩, w3⟩ := q3
    have o3 := sNum_ok o2.1 s3
    have P3 := P2.eq (w3.P (k := 1) (by simp))
    obtain ⟨h4, e4, t4, -⟩ := k_takeIfWord hb o3.1 t3 (t := 7) (by omega)
    have P4 := P3.eq ((wr_X10_takeIfWord e4).P (k := 1) (by simp))
    have o4 := adW_ok o3.1 (t := 7)
    obtain ⟨h5, e5, t5, -⟩ := k_takeIfWord hb o4.1 t4 (t := 8) (by omega)
    have P5 := P4.eq ((wr_X10_takeIfWord e5).P (k := 1) (by simp))
    have hbi : 0 ≤ bI (isW b x3.2 7 = true) ∧ bI (isW b x3.2 7 = true) ≤ 1 := by unfold bI; split <;> omega
    dsimp only
    rw [e4, Option.bind_some]
    dsimp only
    rw [e5, Option.bind_some, n2, n3]
    dsimp only
    unfold adW at t5
    by_cases d : isW b (adW b x3.2 7) 8 = true
    · rw [if_pos d, if_neg (by rw [show bI (isW b (adW b x3.2 7) 8 = true) = 1 from if_pos d]; decide)]
      rw [show adW b x3.2 7 = (if isW b x3.2 7 = true then tkA b x3.2.2.2 else x3.2) from rfl] at d
      rw [if_pos d] at t5
      have o5 := adv_ok o4.1
      refine cK.bind ((k_takeNumber hb o5.1 t5 (by omega) (by omega)).wr (fun a e => wr_X10_takeNumber e)) (fun x6 h6 s6 q6 => ?_)
      obtain ⟨⟨t6, n6⟩, w6⟩ := q6
      have P6 := P5.eq (w6.P (k := 1) (by simp))
      obtain ⟨h7, e7, P7⟩ := k_addArc (r := x2.1) (d := x3.1) (hd := x6.1) (by omega) P6 hbi
      refine ⟨h7, ?_, t6.wr (wr_X0_addArc e7) (by simp) (by simp), P7⟩
      dsimp only
      rw [n6, e7, Option.bind_some]
    · rw [if_neg d, if_pos (by rw [show bI (isW b (adW b x3.2 7) 8 = true) = 0 from if_neg d]; decide)]
      rw [show adW b x3.2 7 = (if isW b x3.2 7 = true then tkA b x3.2.2.2 else x3.2) from rfl] at d
      rw [if_neg d] at t5
      obtain ⟨h7, e7, P7⟩ := k_addArc (r := x2.1) (d := x3.1) (hd := 30) (by omega) P5 hbi
      refine ⟨h7, ?_, t5.wr (wr_X0_addArc e7) (by simp) (by simp), P7⟩
      rw [e7, Option.bind_some]
theorem k_readName (hb : bOk b) (hT : tk_ok b T) (hv : pvZ v) (R : cl_tk h b T) (P : cl_pl h 1 v) : cK (f_X9_readName 1 h) (sName b v T) (fun x h' => cl_tk h' b x.2 ∧ cl_pl h' 1 x.1) := by
  have hA := adv_ok hT
  have h8 := hv.1.1.1
  have hb1 := hb.1
  obtain ⟨h1, e1, t1, -⟩ := k_advance hb hT R
  have P1 := P.eq ((wr_X10_advance e1).P (k := 1) (by simp))
  have r1 := P1.2.1.1
  have ew := k_isAnyWord hA.1 t1
  unfold sName f_X9_readName
  rw [e1, Option.bind_some, ew, Option.bind_some]
  by_cases c : (tkA b T.2.2).1 = 1
  · have a1 := hA.1.2.1
    have a2 := hA.1.2.2.1
    rw [if_pos c, if_neg (by rw [show bI ((tkA b T.2.2).1 = 1) = 1 from if_pos c]; decide), r1, t1.1.2.2.1, t1.1.2.2.2]
    by_cases d : v.1 1 + ((tkA b T.2.2).2.2 - (tkA b T.2.2).2.1) ≤ 20
    · obtain ⟨h2, e2, P2⟩ := k_addName hb hA.1 c d t1.1.1 P1
      obtain ⟨h3, e3, t3, -⟩ := k_advance hb hA.1 (t1.wr (wr_X4_addWord e2) (by simp) (by simp))
      rw [if_pos d, if_pos (by rw [iI_a, iI_s, xI_le (by omega) (by omega) (by omega) (by omega)]; omega), e2, Option.bind_some, e3, Option.bind_some]
      exact ⟨h3, rfl, t3, P2.eq ((wr_X10_advance e3).P (k := 1) (by simp))⟩
    · rw [if_neg d, if_neg (by rw [iI_a, iI_s, xI_le (by omega) (by omega) (by omega) (by omega)]; omega)]
      exact k_failz t1
  · rw [if_neg c, if_pos (by rw [show bI ((tkA b T.2.2).1 = 1) = 0 from if_neg c]; decide)]
    exact k_failz t1
theorem k_readWide (hb : bOk b) (hT : tk_ok b T) (R : cl_tk h b T) (P : cl_pl h 1 v) : cK (f_X9_readWide 1 h) (sWide b v T) (fun x h' => cl_tk h' b x.2 ∧ cl_pl h' 1 x.1) := by
  have hA := adv_ok hT
  have hB := adv_ok hA.1
  obtain ⟨h1, e1, t1, -⟩ := k_advance hb hT R
  have P1 := P.eq ((wr_X10_advance e1).P (k := 1) (by simp))
  have ew := k_isAnyWord hA.1 t1
  unfold sWide f_X9_readWide
  rw [e1, Option.bind_some, ew, Option.bind_some]
  by_cases c : (tkA b T.2.2).1 = 1
  · rw [if_pos c, if_neg (by rw [show bI ((tkA b T.2.2).1 = 1) = 1 from if_pos c]; decide), t1.1.2.2.1, t1.1.2.2.2]
    obtain ⟨h2, e2, t2, -⟩ := k_advance hb hA.1 t1
    have P2 := P1.eq ((wr_X10_advance e2).P (k := 1) (by simp))
    rw [e2, Option.bind_some]
    refine cK.bind ((k_takeNumber hb hB.1 t2 (by omega) (by omega)).wr (fun a e => wr_X10_takeNumber e)) (fun x3 h3 s3 q3 => ?_)
    obtain ⟨⟨t3, n3⟩, w3⟩ := q3
    have P3 := P2.eq (w3.P (k := 1) (by simp))
    obtain ⟨h4, e4, P4⟩ := k_widen (w := x3.1) hb hA.1 c t3.1.1 P3
    refine ⟨h4, ?_, t3.wr (wr_X4_widenWord e4) (by simp) (by simp), P4⟩
    dsimp only
    rw [n3, e4, Option.bind_some]
  · rw [if_neg c, if_pos (by rw [show bI ((tkA b T.2.2).1 = 1) = 0 from if_neg c]; decide)]
    exact k_failz t1
theorem k_readFlourish (hb : bOk b) (hT : tk_ok b T) (hv : pvZ v) (R : cl_tk h b T) (P : cl_pl h 1 v) : cK (f_X9_readFlourish 1 h) (sFlo b v T) (fun x h' => cl_tk h' b x.2 ∧ cl_pl h' 1 x.1) := by
  have hA := adv_ok hT
  have hB := adv_ok hA.1
  have h8 := hv.1.1.1
  have r0 := P.2.2.1.1
  unfold sFlo f_X9_readFlourish
  by_cases c6 : 6 ≤ v.1 2
  · rw [if_pos c6, r0, if_neg (by rw [xI_lt (by omega) (by omega) (by omega) (by omega)]; omega)]
    exact k_failz R
  · rw [if_neg c6, r0, if_pos (by rw [xI_lt (by omega) (by omega) (by omega) (by omega)]; omega)]
    obtain ⟨h1, e1, t1, -⟩ := k_advance hb hT R
    have P1 := P.eq ((wr_X10_advance e1).P (k := 1) (by simp))
    have ew := k_isAnyWord hA.1 t1
    rw [e1, Option.bind_some, ew, Option.bind_some]
    by_cases c : (tkA b T.2.2).1 = 1
    · rw [if_pos c, if_neg (by rw [show bI ((tkA b T.2.2).1 = 1) = 1 from if_pos c]; decide)]
      obtain ⟨h2, e2, P2, z2⟩ := k_beginKind hb hA.1 c (by omega) t1 P1
      have t2 := t1.wr (wr_X2_beginKind e2) (by simp) (by simp)
      have ez := wdZ_nm hA.1 c
      have et := k_taken (f := wdZ b (tkA b T.2.2)) hv.1 (by omega) P2 z2 (fun i hi => nm_b ez hi)
      rw [e2, Option.bind_some, et, Option.bind_some]
      by_cases d : takN v (wdZ b (tkA b T.2.2)) = true
      · rw [if_pos d, if_neg (by rw [show bI (takN v (wdZ b (tkA b T.2.2)) = true) = 1 from if_pos d]; decide)]
        exact k_failz t2
      · rw [if_neg d, if_pos (by rw [show bI (takN v (wdZ b (tkA b T.2.2)) = true) = 0 from if_neg d]; decide)]
        obtain ⟨h3, e3, t3, -⟩ := k_advance hb hA.1 t2
        have w3 := wr_X10_advance e3
        rw [e3, Option.bind_some]
        refine cK.bind ((k_takeNumber hb hB.1 t3 (by omega) (by omega)).wr (fun a e => wr_X10_takeNumber e)) (fun x4 h4 s4 q4 => ?_)
        obtain ⟨⟨t4, n4⟩, w4⟩ := q4
        have o4 := sNum_ok hB.1 s4
        refine cK.bind ((k_takeNumber hb o4.1 t4 (by omega) (by omega)).wr (fun a e => wr_X10_takeNumber e)) (fun x5 h5 s5 q5 => ?_)
        obtain ⟨⟨t5, n5⟩, w5⟩ := q5
        have o5 := sNum_ok o4.1 s5
        refine cK.bind ((k_takeNumber hb o5.1 t5 (by omega) (by omega)).wr (fun a e => wr_X10_takeNumber e)) (fun x6 h6 s6 q6 => ?_)
        obtain ⟨⟨t6, n6⟩, w6⟩ := q6
        have w9 : Wr [(.inl 1, 8)] h2 h6 := w3.tr (w4.tr (w5.tr w6))
        have P6 := P2.eq (w9.P (k := 1) (by simp))
        obtain ⟨h7, e7, P7⟩ := k_endKind (f := wdZ b (tkA b T.2.2)) (w := x4.1) (wo := x5.1) (sk := x6.1) (by omega) P6 (fun i hi => by rw [w9.1 _ _ (by simp)]; exact z2 i hi)
        refine ⟨h7, ?_, t6.wr (wr_X2_endKind e7) (by simp) (by simp), P7⟩
        dsimp only
        rw [n4, n5, n6, e7, Option.bind_some]
    · rw [if_neg c, if_pos (by rw [show bI ((tkA b T.2.2).1 = 1) = 0 from if_neg c]; decide)]
      exact k_failz t1
/-- which of seed, sharp, margin were told -/
def cl_fg (h : am_H) (g : G3) : Prop := h.1 (.inl 1) 10 0 = iI (bI (g.1 = true)) ∧ h.1 (.inl 1) 10 1 = iI (bI (g.2.1 = true)) ∧ h.1 (.inl 1) 10 2 = iI (bI (g.2.2 = true))
theorem cl_fg.wr {h' : am_H} {g : G3} {L : List (am_G × Nat)} (w : Wr L h h') (h10 : ((.inl 1 : am_G), 10) ∉ L) (R : cl_fg h g) : cl_fg h' g := by
  unfold cl_fg at *
  rw [w.1 _ _ h10]; exact R
theorem cl_pl.x0 {k : Nat} {x : Int} (R : cl_pl h k v) : cl_pl (am_u h (.inr k) 16 1 (iI x)) k (pu v 0 2 x) := by
  have e : ∀ o, o ≠ 16 → (am_u h (.inr k) 16 1 (iI x)).1 (.inr k) o = h.1 (.inr k) o := fun o ho => am_u_row (by simp; exact ho)
  refine ⟨R.1.mv (v := v) (w := pu v 0 2 x) (fun o a c => e o (by omega)) rfl (fun c a d => pu_row (d := c) (by omega)), R.2.1.mv (v := v) (w := pu v 0 2 x) (fun o a c => e o (by omega)) rfl (fun c a d => pu_row (d := c) (by omega)), R.2.2.1.mv (v := v) (w := pu v 0 2 x) (fun o a c => e o (by omega)) rfl (fun c a => pu_row (d := c) (by omega)), ⟨?_, ?_, ?_, ?_⟩, R.2.2.2.2.1.mv (v := v) (w := pu v 0 2 x) (fun o a c => e o (by omega)) rfl (fun c a => pu_row (d := c) (by omega)), ?_⟩
  · rw [au_s, if_neg (by omega)]; exact R.2.2.2.1.1
  · rw [au_s, if_pos rfl]; rfl
  · rw [au_s, if_neg (by omega)]; exact R.2.2.2.1.2.2.1
  · rw [au_s, if_neg (by omega)]; exact R.2.2.2.1.2.2.2
  · rw [e 0 (by omega)]; exact R.2.2.2.2.2
theorem k_readSeed (hb : bOk b) (hT : tk_ok b T) {g : G3} (R : cl_tk h b T) (P : cl_pl h 1 v) (F : cl_fg h g) : cK (f_X9_readSeed 1 h) (sOnc b v g.1 2 0 999 T) (fun x h' => cl_tk h' b x.2 ∧ cl_pl h' 1 x.1 ∧ cl_fg h' (true, g.2)) := by
  have hA := adv_ok hT
  have f0 := F.1
  unfold sOnc f_X9_readSeed
  by_cases c : g.1 = true
  · rw [if_pos c, f0, if_neg (by rw [show bI (g.1 = true) = 1 from if_pos c]; decide)]
    exact k_failz R
  · rw [if_neg c, f0, if_pos (by rw [show bI (g.1 = true) = 0 from if_neg c]; decide)]
    have w0 : Wr [(.inl 1, 10)] h (am_u h (.inl 1) 10 0 (iI 1)) := Wr.u (by simp)
    have F0 : cl_fg (am_u h (.inl 1) 10 0 (iI 1)) (true, g.2) := ⟨by rw [au_s, if_pos rfl]; rfl, by rw [au_s, if_neg (by omega)]; exact F.2.1, by rw [au_s, if_neg (by omega)]; exact F.2.2⟩
    obtain ⟨h1, e1, t1, -⟩ := k_advance hb hT (R.wr w0 (by simp) (by simp))
    rw [am_lt, e1, Option.bind_some]
    have w1 := wr_X10_advance e1
    refine cK.bind ((k_takeNumber hb hA.1 t1 (by omega) (by omega)).wr (fun a e => wr_X10_takeNumber e)) (fun x2 h2 s2 q2 => ?_)
    obtain ⟨⟨t2, n2⟩, w2⟩ := q2
    have P2 : cl_pl h2 1 v := ((P.eq (w0.P (by simp))).eq (w1.P (by simp))).eq (w2.P (by simp))
    have w3 : Wr [(.inr 1, 16)] h2 (am_u h2 (.inr 1) 16 1 (iI x2.1)) := Wr.u (by simp)
    refine ⟨am_u h2 (.inr 1) 16 1 (iI x2.1), ?_, t2.wr w3 (by simp) (by simp), P2.x0, ((F0.wr w1 (by simp)).wr w2 (by simp)).wr w3 (by simp)⟩
    dsimp only
    rw [n2, am_lt]
theorem k_readSharp (hb : bOk b) (hT : tk_ok b T) {g : G3} (R : cl_tk h b T) (P : cl_pl h 1 v) (F : cl_fg h g) : cK (f_X9_readSharp 1 h) (sOnc b v g.2.1 0 1 99 T) (fun x h' => cl_tk h' b x.2 ∧ cl_pl h' 1 x.1 ∧ cl_fg h' (g.1, true, g.2.2)) := by
  have hA := adv_ok hT
  have f0 := F.2.1
  unfold sOnc f_X9_readSharp
  by_cases c : g.2.1 = true
  · rw [if_pos c, f0, if_neg (by rw [show bI (g.2.1 = true) = 1 from if_pos c]; decide)]
    exact k_failz R
  · rw [if_neg c, f0, if_pos (by rw [show bI (g.2.1 = true) = 0 from if_neg c]; decide)]
    have w0 : Wr [(.inl 1, 10)] h (am_u h (.inl 1) 10 1 (iI 1)) := Wr.u (by simp)
    have F0 : cl_fg (am_u h (.inl 1) 10 1 (iI 1)) (g.1, true, g.2.2) := ⟨by rw [au_s, if_neg (by omega)]; exact F.1, by rw [au_s, if_pos rfl]; rfl, by rw [au_s, if_neg (by omega)]; exact F.2.2⟩
    obtain ⟨h1, e1, t1, -⟩ := k_advance hb hT (R.wr w0 (by simp) (by simp))
    rw [am_lt, e1, Option.bind_some]
    have w1 := wr_X10_advance e1
    refine cK.bind ((k_takeNumber hb hA.1 t1 (by omega) (by omega)).wr (fun a e => wr_X10_takeNumber e)) (fun x2 h2 s2 q2 => ?_)
    obtain ⟨⟨t2, n2⟩, w2⟩ := q2
    have P2 : cl_pl h2 1 v := ((P.eq (w0.P (by simp))).eq (w1.P (by simp))).eq (w2.P (by simp))
    have w3 : Wr [(.inr 1, 16)] h2 (am_u h2 (.inr 1) 16 0 (iI x2.1)) := Wr.u (by simp)
    refine ⟨am_u h2 (.inr 1) 16 0 (iI x2.1), ?_, t2.wr w3 (by simp) (by simp), P2.g0, ((F0.wr w1 (by simp)).wr w2 (by simp)).wr w3 (by simp)⟩
    dsimp only
    rw [n2, am_lt]
theorem k_readMargin (hb : bOk b) (hT : tk_ok b T) {g : G3} (R : cl_tk h b T) (P : cl_pl h 1 v) (F : cl_fg h g) : cK (f_X9_readMargin 1 h) (sOnc b v g.2.2 1 0 99 T) (fun x h' => cl_tk h' b x.2 ∧ cl_pl h' 1 x.1 ∧ cl_fg h' (g.1, g.2.1, true)) := by
  have hA := adv_ok hT
  have f0 := F.2.2
  unfold sOnc f_X9_readMargin
  by_cases c : g.2.2 = true
  · rw [if_pos c, f0, if_neg (by rw [show bI (g.2.2 = true) = 1 from if_pos c]; decide)]
    exact k_failz R
  · rw [if_neg c, f0, if_pos (by rw [show bI (g.2.2 = true) = 0 from if_neg c]; decide)]
    have w0 : Wr [(.inl 1, 10)] h (am_u h (.inl 1) 10 2 (iI 1)) := Wr.u (by simp)
    have F0 : cl_fg (am_u h (.inl 1) 10 2 (iI 1)) (g.1, g.2.1, true) := ⟨by rw [au_s, if_neg (by omega)]; exact F.1, by rw [au_s, if_neg (by omega)]; exact F.2.1, by rw [au_s, if_pos rfl]; rfl⟩
    obtain ⟨h1, e1, t1, -⟩ := k_advance hb hT (R.wr w0 (by simp) (by simp))
    rw [am_lt, e1, Option.bind_some]
    have w1 := wr_X10_advance e1
    refine cK.bind ((k_takeNumber hb hA.1 t1 (by omega) (by omega)).wr (fun a e => wr_X10_takeNumber e)) (fun x2 h2 s2 q2 => ?_)
    obtain ⟨⟨t2, n2⟩, w2⟩ := q2
    have P2 : cl_pl h2 1 v := ((P.eq (w0.P (by simp))).eq (w1.P (by simp))).eq (w2.P (by simp))
    have w3 : Wr [(.inr 1, 0)] h2 (am_u h2 (.inr 1) 0 5 (iI x2.1)) := Wr.u (by simp)
    refine ⟨am_u h2 (.inr 1) 0 5 (iI x2.1), ?_, t2.wr w3 (by simp) (by simp), P2.m0, ((F0.wr w1 (by simp)).wr w2 (by simp)).wr w3 (by simp)⟩
    dsimp only
    rw [n2, am_lt]
theorem cK.map {X Y : Type} {o : Option (Int32 × am_H)} {r : Rs X} {Q : X → am_H → Prop} {Q' : Y → am_H → Prop} {f : X → Y} (C : cK o r Q) (h : ∀ x h', Q x h' → Q' (f x) h') : cK o (r.bd (fun x => .inr (f x))) Q' := by
  cases r with
  | inl e => exact C
  | inr x => obtain ⟨h', e1, q⟩ := C; exact ⟨h', e1, h _ _ q⟩
abbrev PSq (b : bfT) (x : pv_T × G3 × Tk) (h' : am_H) : Prop := cl_tk h' b x.2.2 ∧ cl_pl h' 1 x.1 ∧ cl_fg h' x.2.1
theorem k_readStm (hb : bOk b) (hT : tk_ok b T) {g : G3} (hv : pvZ v) (R : cl_tk h b T) (P : cl_pl h 1 v) (F : cl_fg h g) : cK (f_X9_readStatement 1 h) (sStm b v g T) (PSq b) := by
  have e0 := k_isWord hb hT R (t := 0) (by omega)
  have e1 := k_isWord hb hT R (t := 1) (by omega)
  have e2 := k_isWord hb hT R (t := 2) (by omega)
  have e3 := k_isWord hb hT R (t := 3) (by omega)
  have e4 := k_isWord hb hT R (t := 4) (by omega)
  have e5 := k_isWord hb hT R (t := 5) (by omega)
  have e6 := k_isWord hb hT R (t := 6) (by omega)
  have z1 : ¬ (iI 1 : Int32) = 0 := by decide
  have z0 : (iI 0 : Int32) = 0 := by decide
  unfold sStm f_X9_readStatement
  by_cases c0 : isW b T 0 = true
  · rw [show bI (isW b T 0 = true) = 1 from if_pos c0] at e0
    rw [if_pos c0, e0, Option.bind_some, if_neg z1]
    exact (((k_readArc hb hT hv R P).wr (F := fun h' => cl_fg h' g) (fun a e => F.wr (wr_X9_readArc e) (by simp))).zz).map (fun x h' q => ⟨q.1.1, q.1.2, q.2⟩)
  · rw [show bI (isW b T 0 = true) = 0 from if_neg c0] at e0
    rw [if_neg c0, e0, Option.bind_some, if_pos z0]
    by_cases c1 : isW b T 1 = true
    · rw [show bI (isW b T 1 = true) = 1 from if_pos c1] at e1
      rw [if_pos c1, e1, Option.bind_some, if_neg z1]
      exact (((k_readName hb hT hv R P).wr (F := fun h' => cl_fg h' g) (fun a e => F.wr (wr_X9_readName e) (by simp))).zz).map (fun x h' q => ⟨q.1.1, q.1.2, q.2⟩)
    · rw [show bI (isW b T 1 = true) = 0 from if_neg c1] at e1
      rw [if_neg c1, e1, Option.bind_some, if_pos z0]
      by_cases c2 : isW b T 2 = true
      · rw [show bI (isW b T 2 = true) = 1 from if_pos c2] at e2
        rw [if_pos c2, e2, Option.bind_some, if_neg z1]
        exact (((k_readWide hb hT R P).wr (F := fun h' => cl_fg h' g) (fun a e => F.wr (wr_X9_readWide e) (by simp))).zz).map (fun x h' q => ⟨q.1.1, q.1.2, q.2⟩)
      · rw [show bI (isW b T 2 = true) = 0 from if_neg c2] at e2
        rw [if_neg c2, e2, Option.bind_some, if_pos z0]
        by_cases c3 : isW b T 3 = true
        · rw [show bI (isW b T 3 = true) = 1 from if_pos c3] at e3
          rw [if_pos c3, e3, Option.bind_some, if_neg z1]
          exact (((k_readFlourish hb hT hv R P).wr (F := fun h' => cl_fg h' g) (fun a e => F.wr (wr_X9_readFlourish e) (by simp))).zz).map (fun x h' q => ⟨q.1.1, q.1.2, q.2⟩)
        · rw [show bI (isW b T 3 = true) = 0 from if_neg c3] at e3
          rw [if_neg c3, e3, Option.bind_some, if_pos z0]
          by_cases c4 : isW b T 4 = true
          · rw [show bI (isW b T 4 = true) = 1 from if_pos c4] at e4
            rw [if_pos c4, e4, Option.bind_some, if_neg z1]
            exact ((k_readSeed hb hT R P F).zz).map (fun x h' q => q)
          · rw [show bI (isW b T 4 = true) = 0 from if_neg c4] at e4
            rw [if_neg c4, e4, Option.bind_some, if_pos z0]
            by_cases c5 : isW b T 5 = true
            · rw [show bI (isW b T 5 = true) = 1 from if_pos c5] at e5
              rw [if_pos c5, e5, Option.bind_some, if_neg z1]
              exact ((k_readSharp hb hT R P F).zz).map (fun x h' q => q)
            · rw [show bI (isW b T 5 = true) = 0 from if_neg c5] at e5
              rw [if_neg c5, e5, Option.bind_some, if_pos z0]
              by_cases c6 : isW b T 6 = true
              · rw [show bI (isW b T 6 = true) = 1 from if_pos c6] at e6
                rw [if_pos c6, e6, Option.bind_some, if_neg z1]
                exact ((k_readMargin hb hT R P F).zz).map (fun x h' q => q)
              · rw [show bI (isW b T 6 = true) = 0 from if_neg c6] at e6
                rw [if_neg c6, e6, Option.bind_some, if_pos z0]
                exact k_failz R
theorem Rs.bd_bd {X Y Z : Type} {r : Rs X} {s : X → Rs Y} {t : Y → Rs Z} : (r.bd s).bd t = r.bd (fun x => (s x).bd t) := by cases r <;> rfl
theorem k_readInto (hb : bOk b) : ∀ (n : Nat), n ≤ 500 → ∀ {h : am_H} {v : pv_T} {g : G3} {T : Tk}, tk_ok b T → pvZ v → cl_tk h b T → cl_pl h 1 v → cl_fg h g → cK (f_X9_readInto_25 1 (iI (500 - (n : Int))) h) (sTxt b n v g T) (fun w h' => cl_bf h' b ∧ cl_pl h' 1 w ∧ h'.1 (.inl 1) 8 6 = iI 0 ∧ h'.1 (.inl 1) 8 7 = iI (-1))
  | 0, _, h, v, g, T, hT, hv, R, P, F => by
    refine ⟨h, ?_, R.1.1, P, R.2.1, R.2.2⟩
    rw [e_X9_readInto_25]
    simp (disch := omega) only [xI_le, xI_lt, xI_eq, xI_0, xI_ib, if_pos, if_neg, if_true, if_false, xI_cl, Int.toNat_natCast, iI_m, iI_a, iI_s, iI_1, xI_n, Option.bind_some, Int.natCast_add, Int.natCast_one, xI_zb, if_bI0, if_bI1, xI_rn, xI_ti]
  | n + 1, hn, h, v, g, T, hT, hv, R, P, F => by
    have ee := k_isAtEnd hT R
    rw [e_X9_readInto_25, if_neg (by rw [xI_le (by omega) (by omega) (by omega) (by omega)]; omega), ee, Option.bind_some]
    unfold sTxt
    by_cases c : T.1 = 0
    · rw [if_pos c, if_neg (by rw [show bI (T.1 = 0) = 1 from if_pos c]; decide)]
      exact ⟨h, rfl, R.1.1, P, R.2.1, R.2.2⟩
    · rw [if_neg c, if_pos (by rw [show bI (T.1 = 0) = 0 from if_neg c]; decide)]
      unfold sStt
      rw [Rs.bd_bd]
      refine cK.bind (k_readStm hb hT hv R P F) (fun x h1 s1 q1 => ?_)
      have o1 := sStm_ok hT hv s1
      rw [Rs.bd_bd]
      refine cK.bind ((k_takeSign hb o1.2.1 q1.1 (by omega)).wr (fun a e => wr_X10_takeSign e)) (fun T2 h2 s2 q2 => ?_)
      obtain ⟨t2, w2⟩ := q2
      have o2 := sSign_ok o1.2.1 s2
      have ih := k_readInto hb n (by omega) (h := h2) (v := x.1) (g := x.2.1) (T := T2) o2.1 o1.1 t2 (q1.2.1.eq (w2.P (by simp))) (q1.2.2.wr w2 (by simp))
      have en : iI (500 - ((n + 1 : Nat) : Int)) + 1 = iI (500 - (n : Int)) := by
        rw [iI_1, show (500 : Int) - ((n + 1 : Nat) : Int) + 1 = 500 - (n : Int) by omega]
      dsimp only
      rw [en]
      exact ih
end CRD
