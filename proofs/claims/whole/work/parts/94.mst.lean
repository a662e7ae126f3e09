/-! statements, the reference's: what they change -/
section MST
variable {h : am_H} {b : bfT} {T : Tk} {v : pv_T}
theorem mo_pl.tf {h' : am_H} (w : Wr [(.inl 0, 0)] h h') (R : mo_pl h v) : mo_pl h' v := R.eq (w.1 _ _ (by simp))
theorem mo_nm.tf {h' : am_H} {o : Nat} (w : Wr [(.inl 0, 0)] h h') (ho : o ≠ 0) (R : mo_nm h o v) : mo_nm h' o v := by
  unfold mo_nm at *
  rw [w.2.1 _ _ (by simp; exact ho)]; exact R
theorem mo_b.wr {h' : am_H} (e3 : h'.1 (.inl 0) 0 = h.1 (.inl 0) 0) (e1 : h'.1 (.inl 0) 1 = h.1 (.inl 0) 1) (R : mo_b h b) : mo_b h' b := R.eq (by rw [e3]) e1
theorem mo_tk.wr {h' : am_H} {L : List (am_G × Nat)} (w : Wr L h h') (h0 : ((.inl 0 : am_G), 0) ∉ L) (h1 : ((.inl 0 : am_G), 1) ∉ L) (R : mo_tk h b T) : mo_tk h' b T := by
  unfold mo_tk mo_t0 mo_b at *
  rw [w.1 _ _ h0, w.1 _ _ h1, w.2.1 _ _ h0]; exact R
theorem mo_er.wr {h' : am_H} {e : Int × Int} {L : List (am_G × Nat)} (w : Wr L h h') (h0 : ((.inl 0 : am_G), 0) ∉ L) (R : mo_er h e) : mo_er h' e := by
  unfold mo_er at *
  rw [w.1 _ _ h0]; exact R
/-- an arc -/
theorem mo_rw.arcX {f f' : Nat → Int32} {r d rt hd : Int} (h0 : v.1 0 < 8) (h1 : v.1 1 ≤ 20) (h2 : v.1 2 ≤ 6) (e : ∀ j, j ≠ 0 → (j < 12 + 4 * v.1 0 ∨ 12 + 4 * v.1 0 + 4 ≤ j) → f' j = f j) (e0 : f' 0 = iI ((v.1 0 : Int) + 1)) (c0 : f' (12 + 4 * v.1 0) = iI r) (c1 : f' (12 + 4 * v.1 0 + 1) = iI d) (c2 : f' (12 + 4 * v.1 0 + 2) = iI rt) (c3 : f' (12 + 4 * v.1 0 + 3) = iI hd) (R : mo_rw f v) : mo_rw f' (arcV v r d rt hd) := by
  obtain ⟨⟨r0, r1, r2, r3, r4, r5, r6, r7, r8⟩, ra, rl, rw', rk, rs⟩ := R
  have a1 : ∀ i, (arcV v r d rt hd).2 1 i = if i = v.1 0 then r else v.2 1 i := fun i => rfl
  have a2 : ∀ i, (arcV v r d rt hd).2 2 i = if i = v.1 0 then d else v.2 2 i := fun i => rfl
  have a3 : ∀ i, (arcV v r d rt hd).2 3 i = if i = v.1 0 then rt else v.2 3 i := fun i => rfl
  have a4 : ∀ i, (arcV v r d rt hd).2 4 i = if i = v.1 0 then hd else v.2 4 i := fun i => rfl
  have z0 := arcV_c (v := v) (r := r) (d := d) (rt := rt) (hd := hd) (c := 0) (by omega)
  refine ⟨⟨e0, (e 1 (by omega) (by omega)).trans r1, (e 2 (by omega) (by omega)).trans r2, ?_, ?_, ?_, ?_, ?_, (e 8 (by omega) (by omega)).trans r8⟩, fun i hi c hc => ?_, fun i hi c hc => ?_, fun i hi => ?_, fun i hi c hc => ?_, fun i hi c hc => ?_⟩
  · rw [z0, e 3 (by omega) (by omega)]; exact r3
  · rw [z0, e 4 (by omega) (by omega)]; exact r4
  · rw [z0, e 5 (by omega) (by omega)]; exact r5
  · rw [z0, e 6 (by omega) (by omega)]; exact r6
  · rw [z0, e 7 (by omega) (by omega)]; exact r7
  · have hi' : i < v.1 0 + 1 := hi
    have hc' : c = 0 ∨ c = 1 ∨ c = 2 ∨ c = 3 := by omega
    by_cases g : i = v.1 0
    · subst g
      rcases hc' with rfl | rfl | rfl | rfl
      · show f' (12 + 4 * v.1 0) = iI ((arcV v r d rt hd).2 1 (v.1 0)); rw [a1, if_pos rfl]; exact c0
      · show _ = iI ((arcV v r d rt hd).2 2 (v.1 0)); rw [a2, if_pos rfl]; exact c1
      · show _ = iI ((arcV v r d rt hd).2 3 (v.1 0)); rw [a3, if_pos rfl]; exact c2
      · show _ = iI ((arcV v r d rt hd).2 4 (v.1 0)); rw [a4, if_pos rfl]; exact c3
    · rw [e _ (by omega) (by omega), ra i (by omega) c hc]
      rcases hc' with rfl | rfl | rfl | rfl
      · show _ = iI ((arcV v r d rt hd).2 1 i); rw [a1, if_neg g]
      · show _ = iI ((arcV v r d rt hd).2 2 i); rw [a2, if_neg g]
      · show _ = iI ((arcV v r d rt hd).2 3 i); rw [a3, if_neg g]
      · show _ = iI ((arcV v r d rt hd).2 4 i); rw [a4, if_neg g]
  · have hi' : i < v.1 1 := hi
    rw [arcV_c (by omega), e _ (by omega) (by omega)]; exact rl i hi c hc
  · rw [arcV_c (by omega), e _ (by omega) (by omega)]; exact rw' i hi
  · have hi' : i < v.1 2 := hi
    rw [arcV_c (by omega), e _ (by omega) (by omega)]; exact rk i hi c hc
  · rw [arcV_c (by omega), e _ (by omega) (by omega)]; exact rs i hi c hc
theorem m_arc99 (hv : pvZ v) (h8 : v.1 0 < 8) (R : mo_tk h b T) (P : mo_pl h v) {r d hd : Int} {c : Prop} [Decidable c] : ∃ h', f_X12_readsArc_99 (iI (v.1 0)) (iI r) (iI d) (iI (bI c)) (iI hd) h = some h' ∧ mo_pl h' (arcV v r d (bI c) hd) ∧ Wr [(.inl 0, 2)] h h' := by
  have h88 := hv.1.1.1
  have r0 := P.1.1
  refine ⟨am_u (am_u (am_u (am_u (am_u h (.inl 0) 2 (12 + 4 * v.1 0) (iI r)) (.inl 0) 2 (12 + 4 * v.1 0 + 1) (iI d)) (.inl 0) 2 (12 + 4 * v.1 0 + 2) (iI (bI c))) (.inl 0) 2 (12 + 4 * v.1 0 + 3) (iI hd)) (.inl 0) 2 0 (iI ((v.1 0 : Int) + 1)), ?_, ?_, (Wr.u (by simp)).tr ((Wr.u (by simp)).tr ((Wr.u (by simp)).tr ((Wr.u (by simp)).tr (Wr.u (by simp)))))⟩
  · unfold f_X12_readsArc_99
    rw [m_good R, Option.bind_some, if_neg (by decide), m_truth]
    simp (disch := omega) only [xI_le, xI_lt, xI_eq, xI_0, xI_ib, if_pos, if_neg, if_true, if_false, xI_cl, Int.toNat_natCast, iI_m, iI_a, iI_s, iI_1, xI_n, Option.bind_some, Int.natCast_add, Int.natCast_one, xI_zb, if_bI0, if_bI1, xI_rn, xI_ti, am_lt, show (12 + 4 * (v.1 0 : Int) + 0).toNat = 12 + 4 * v.1 0 from by omega, show (12 + 4 * (v.1 0 : Int) + 1).toNat = 12 + 4 * v.1 0 + 1 from by omega, show (12 + 4 * (v.1 0 : Int) + 2).toNat = 12 + 4 * v.1 0 + 2 from by omega, show (12 + 4 * (v.1 0 : Int) + 3).toNat = 12 + 4 * v.1 0 + 3 from by omega, Int.toNat_zero, au_s, r0]
  · refine mo_rw.arcX h8 h88.2.1 h88.2.2.1 (fun j h0 hj => ?_) ?_ ?_ ?_ ?_ ?_ P
    · rw [au_s, if_neg h0, au_s, if_neg (by omega), au_s, if_neg (by omega), au_s, if_neg (by omega), au_s, if_neg (by omega)]
    · rw [au_s, if_pos rfl]
    · rw [au_s, if_neg (by omega), au_s, if_neg (by omega), au_s, if_neg (by omega), au_s, if_neg (by omega), au_s, if_pos rfl]
    · rw [au_s, if_neg (by omega), au_s, if_neg (by omega), au_s, if_neg (by omega), au_s, if_pos rfl]
    · rw [au_s, if_neg (by omega), au_s, if_neg (by omega), au_s, if_pos rfl]
    · rw [au_s, if_neg (by omega), au_s, if_pos rfl]
theorem er_arc99 {e : Int × Int} (E : mo_er h e) {x1 x2 x3 x4 x5 : Int32} : f_X12_readsArc_99 x1 x2 x3 x4 x5 h = some h := by
  unfold f_X12_readsArc_99
  rw [er_good E, Option.bind_some, if_pos (by decide)]
theorem er_arc82 {e : Int × Int} (E : mo_er h e) {x1 x2 x3 x4 x5 : Int32} : f_X12_readsArc_82 x1 x2 x3 x4 x5 h = some h := by
  unfold f_X12_readsArc_82
  split
  · exact er_arc99 E
  · rw [er_number E, Option.bind_some]
    exact er_arc99 E
theorem er_arc64 {e : Int × Int} (E : mo_er h e) {x1 x2 x3 x4 : Int32} : f_X12_readsArc_64 x1 x2 x3 x4 h = some h := by
  unfold f_X12_readsArc_64
  rw [er_isWord E, Option.bind_some, if_pos (by decide)]
  exact er_arc82 E
theorem er_arc29 {e : Int × Int} (E : mo_er h e) {x1 : Int32} : f_X12_readsArc_29 x1 h = some h := by
  unfold f_X12_readsArc_29
  rw [er_number E, Option.bind_some]
  dsimp only
  rw [er_number E, Option.bind_some]
  dsimp only
  rw [er_isWord E, Option.bind_some, if_pos (by decide)]
  exact er_arc64 E
/-- names -/
theorem mo_nm.sm {h' : am_H} {w : pv_T} {o : Nat} (e : h'.2.1 (.inl 0) o = h.2.1 (.inl 0) o) (e1 : w.1 2 = v.1 2) (e2 : w.2 14 = v.2 14) (R : mo_nm h o v) : mo_nm h' o w := by
  unfold mo_nm at *
  rw [e, e1]
  intro q hq
  show _ = lN (pkN (fun i => w.2 14 (8 * q + i)) 8)
  rw [e2]; exact R q hq
/-- what a statement may change, and what not -/
def TS (h h' : am_H) : Prop := (∀ j, j < 4 ∨ 9 < j → h'.1 (.inl 0) 0 j = h.1 (.inl 0) 0 j) ∧ Wr [(.inl 0, 0), (.inl 0, 2), (.inl 0, 7)] h h'
theorem TS.rf {h : am_H} : TS h h := ⟨fun _ _ => rfl, Wr.rf⟩
theorem TS.tr {h h1 h2 : am_H} (a : TS h h1) (c : TS h1 h2) : TS h h2 := ⟨fun j hj => (c.1 j hj).trans (a.1 j hj), a.2.tr c.2⟩
theorem TF.s {h h' : am_H} (a : TF h h') : TS h h' := ⟨fun j hj => a.1 j (by omega), a.2.mono (by simp)⟩
theorem TS.w2 {h h' : am_H} (w : Wr [(.inl 0, 2)] h h') : TS h h' := ⟨fun j _ => by rw [w.1 _ _ (by simp)], w.mono (by simp)⟩
theorem TS.w7 {h h' : am_H} (w : Wr [(.inl 0, 7)] h h') : TS h h' := ⟨fun j _ => by rw [w.1 _ _ (by simp)], w.mono (by simp)⟩
def mo_ps (h : am_H) (b : bfT) (v : pv_T) (T : Tk) : Prop := mo_tk h b T ∧ mo_pl h v ∧ mo_nm h 7 v
theorem mo_ps.tf {h' : am_H} {T' : Tk} (f : TF h h') (t : mo_tk h' b T') (R : mo_ps h b v T) : mo_ps h' b v T' := ⟨t, R.2.1.tf f.2, R.2.2.tf f.2 (by omega)⟩
theorem m_readsArc (hb : bOk b) (hT : tk_ok b T) (hv : pvZ v) (h4 : T.1 ≠ 4) (R : mo_ps h b v T) : mK (f_X12_readsArc h) (sArc b v T) (TS h) (fun x h' => mo_ps h' b x.1 x.2) := by
  have hA := adv_ok hT
  have r0 := R.2.1.1.1
  have h8 := hv.1.1.1.1
  have ib0 : ib (iI 0) 408 := by rw [xI_ib (by omega) (by omega) (by omega)]; trivial
  have c0 : (iI 0).toNatClampNeg = 0 := rfl
  unfold sArc f_X12_readsArc
  rw [if_pos ib0, c0, r0]
  by_cases c : 8 ≤ v.1 0
  · obtain ⟨h1, e1, t, k⟩ := m_wrong hT R.1 (c := 5) (by omega)
    rw [if_neg h4] at t
    have e8 : v.1 0 = 8 := by omega
    rw [if_pos c, if_pos (by rw [e8]; rfl), e1, Option.bind_some, er_good t, Option.bind_some, if_pos (by decide), er_arc29 t]
    exact ⟨h1, rfl, t, k.s⟩
  · obtain ⟨h1, e1, t1, k1⟩ := m_next hb hT R.1
    have R1 : mo_ps h1 b v (tkA b T.2.2) := R.tf k1 t1
    rw [if_neg c, if_neg (by rw [xI_eq (by omega) (by omega) (by omega) (by omega)]; omega), m_good R.1, Option.bind_some, if_neg (by decide), e1, Option.bind_some]
    unfold f_X12_readsArc_29
    refine mKn.bind (m_number hb hA.1 t1 (by omega) (by omega)) (fun y h' e E f => ⟨h', ?_, E, (k1.tr f).s⟩) (fun x2 y2 h2 s2 q2 f2 => ?_)
    · dsimp only
      rw [er_number E, Option.bind_some]
      dsimp only
      rw [er_isWord E, Option.bind_some, if_pos (by decide)]
      exact er_arc64 E
    obtain ⟨rfl, t2⟩ := q2
    have R2 := R1.tf f2 t2
    have o2 := sNum_ok hA.1 s2
    refine mKn.bind (m_number hb o2.1 t2 (by omega) (by omega)) (fun y h' e E f => ⟨h', ?_, E, (k1.tr (f2.tr f)).s⟩) (fun x3 y3 h3 s3 q3 f3 => ?_)
    · dsimp only
      rw [er_isWord E, Option.bind_some, if_pos (by decide)]
      exact er_arc64 E
    obtain ⟨rfl, t3⟩ := q3
    have R3 := R2.tf f3 t3
    have o3 := sNum_ok o2.1 s3
    have o4 := adW_ok o3.1 (t := 7)
    refine mK.adv hb o3.1 t3 (t := 7) (by omega) rfl (k := fun a hh => f_X12_readsArc_64 (iI (v.1 0)) (iI x2.1) (iI x3.1) a hh) (fun h4 t4 f4 => ?_)
    have R4 := R3.tf f4 t4
    unfold f_X12_readsArc_64
    refine mK.adv hb o4.1 t4 (t := 8) (by omega) rfl (k := fun a hh => f_X12_readsArc_82 (iI (v.1 0)) (iI x2.1) (iI x3.1) (iI (bI (isW b x3.2 7 = true))) a hh) (fun h5 t5 f5 => ?_)
    have R5 := R4.tf f5 t5
    have kk : TF h h5 := k1.tr (f2.tr (f3.tr (f4.tr f5)))
    have fin : ∀ (hd : Int) (hh : am_H) (T' : Tk), mo_ps hh b v T' → TF h hh → mK (f_X12_readsArc_99 (iI (v.1 0)) (iI x2.1) (iI x3.1) (iI (bI (isW b x3.2 7 = true))) (iI hd) hh) (.inr (arcV v x2.1 x3.1 (bI (isW b x3.2 7 = true)) hd, T') : Rs (pv_T × Tk)) (TS h) (fun x h' => mo_ps h' b x.1 x.2) := fun hd hh T' Rh fh => by
      obtain ⟨h9, e9, P9, w9⟩ := m_arc99 (r := x2.1) (d := x3.1) (hd := hd) (c := isW b x3.2 7 = true) hv (by omega) Rh.1 Rh.2.1
      exact ⟨h9, e9, ⟨Rh.1.wr w9 (by simp) (by simp), P9, Rh.2.2.sm (w9.2.1 _ _ (by simp)) rfl (arcV_c (by omega))⟩, fh.s.tr (TS.w2 w9)⟩
    unfold f_X12_readsArc_82
    unfold adW at t5 R5
    by_cases d : isW b (adW b x3.2 7) 8 = true
    · rw [if_pos d, if_neg (by rw [show bI (isW b (adW b x3.2 7) 8 = true) = 1 from if_pos d]; decide)]
      rw [show adW b x3.2 7 = (if isW b x3.2 7 = true then tkA b x3.2.2.2 else x3.2) from rfl] at d
      rw [if_pos d] at t5 R5
      have o5 := adv_ok o4.1
      refine mKn.bind (m_number hb o5.1 t5 (by omega) (by omega)) (fun y h' e E f => ⟨h', er_arc99 E, E, (kk.tr f).s⟩) (fun x6 y6 h6 s6 q6 f6 => ?_)
      obtain ⟨rfl, t6⟩ := q6
      exact fin x6.1 h6 x6.2 (R5.tf f6 t6) (kk.tr f6)
    · rw [if_neg d, if_pos (by rw [show bI (isW b (adW b x3.2 7) 8 = true) = 0 from if_neg d]; decide)]
      rw [show adW b x3.2 7 = (if isW b x3.2 7 = true then tkA b x3.2.2.2 else x3.2) from rfl] at d
      rw [if_neg d] at t5 R5
      exact fin 30 h5 _ R5 kk
end MST
