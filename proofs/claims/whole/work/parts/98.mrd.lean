section MRD
variable {h : am_H} {st : St} {b : bfT} {T : Tk} {v : pv_T}
def mo_rs (h' : am_H) (r : Rs pv_T) : Prop := match r with
  | .inl e => mo_er h' e
  | .inr w => h'.1 (.inl 0) 0 8 = iI 0 ∧ h'.1 (.inl 0) 0 9 = iI (-1) ∧ mo_pl h' w ∧ mo_nm h' 7 w
theorem m_rdLoop (hb : bOk b) : ∀ (n : Nat) {h : am_H} {v : pv_T} {g : G3} {T : Tk}, 500 ≤ T.2.1 + n → tk_ok b T → pvZ v → mo_ps h b v T → mo_fg h g → ∃ h', f_X12_readText_28 h = f_X12_readText_49 h' ∧ mo_rs h' (sTxt b n v g T) ∧ TU h h'
  | 0, h, v, g, T, hn, hT, hv, R, F => by
    have hb1 := hb.1
    have h2 := hT.2.1
    have h3 := hT.2.2.1
    have h0 : T.1 = 0 := by
      by_cases c : T.1 = 0
      · exact c
      · have := hT.2.2.2.2.1 c; omega
    refine ⟨h, ?_, ⟨R.1.2.1, R.1.2.2, R.2.1, R.2.2⟩, TU.rf⟩
    rw [e_X12_readText_28, m_good R.1, Option.bind_some, if_neg (by decide), R.1.1.2.2.2.1, h0, if_pos (by rfl)]
  | n + 1, h, v, g, T, hn, hT, hv, R, F => by
    have t1 := hT.1
    unfold sTxt
    rw [e_X12_readText_28, m_good R.1, Option.bind_some, if_neg (by decide), R.1.1.2.2.2.1]
    by_cases c : T.1 = 0
    · rw [if_pos c, c, if_pos (by rfl)]
      exact ⟨h, rfl, ⟨R.1.2.1, R.1.2.2, R.2.1, R.2.2⟩, TU.rf⟩
    · rw [if_neg c, if_neg (by rw [xI_0, xI_eq (by omega) (by omega) (by omega) (by omega)]; omega)]
      have C := m_statement hb hT hv R F
      have hok := fun x e => sStt_ok (b := b) (v := v) (g := g) (T := T) (x := x) hT hv e
      generalize sStt b v g T = r at *
      cases r with
      | inl e =>
        obtain ⟨h', e1, E, f⟩ := C
        refine ⟨h', ?_, E, f⟩
        rw [e1, Option.bind_some, e_X12_readText_28, er_good E, Option.bind_some, if_pos (by decide)]
      | inr x =>
        obtain ⟨h', e1, q, f⟩ := C
        have o := hok x rfl
        obtain ⟨h9, e9, q9, f9⟩ := m_rdLoop hb n (h := h') (v := x.1) (g := x.2.1) (T := x.2.2) (by omega) o.2.1 o.1 q.1 q.2
        exact ⟨h9, by rw [e1, Option.bind_some]; exact e9, q9, f.tr f9⟩
theorem m_begins (hb : bOk b) (R : mo_bf h b) : ∃ h', f_X12_beginsText h = some h' ∧ mo_tk h' b (tkA b 0) ∧ h'.1 (.inl 0) 0 2 = iI 0 ∧ (∀ j, j < 2 ∨ 9 < j → h'.1 (.inl 0) 0 j = h.1 (.inl 0) 0 j) ∧ Wr [(.inl 0, 0)] h h' := by
  have w0 : Wr [(.inl 0, 0)] h (am_u (am_u (am_u (am_u (am_u h (.inl 0) 0 3 (iI b.1)) (.inl 0) 0 2 (iI 0)) (.inl 0) 0 4 (iI 0)) (.inl 0) 0 8 (iI 0)) (.inl 0) 0 9 (iI (-1))) := (Wr.u (by simp)).tr ((Wr.u (by simp)).tr ((Wr.u (by simp)).tr ((Wr.u (by simp)).tr (Wr.u (by simp)))))
  have k3 : (am_u (am_u (am_u (am_u (am_u h (.inl 0) 0 3 (iI b.1)) (.inl 0) 0 2 (iI 0)) (.inl 0) 0 4 (iI 0)) (.inl 0) 0 8 (iI 0)) (.inl 0) 0 9 (iI (-1))).1 (.inl 0) 0 3 = iI b.1 := by rw [au_s, if_neg (by omega), au_s, if_neg (by omega), au_s, if_neg (by omega), au_s, if_neg (by omega), au_s, if_pos rfl]
  have k2 : (am_u (am_u (am_u (am_u (am_u h (.inl 0) 0 3 (iI b.1)) (.inl 0) 0 2 (iI 0)) (.inl 0) 0 4 (iI 0)) (.inl 0) 0 8 (iI 0)) (.inl 0) 0 9 (iI (-1))).1 (.inl 0) 0 2 = iI 0 := by rw [au_s, if_neg (by omega), au_s, if_neg (by omega), au_s, if_neg (by omega), au_s, if_pos rfl]
  have k4 : (am_u (am_u (am_u (am_u (am_u h (.inl 0) 0 3 (iI b.1)) (.inl 0) 0 2 (iI 0)) (.inl 0) 0 4 (iI 0)) (.inl 0) 0 8 (iI 0)) (.inl 0) 0 9 (iI (-1))).1 (.inl 0) 0 4 = iI 0 := by rw [au_s, if_neg (by omega), au_s, if_neg (by omega), au_s, if_pos rfl]
  have k8 : (am_u (am_u (am_u (am_u (am_u h (.inl 0) 0 3 (iI b.1)) (.inl 0) 0 2 (iI 0)) (.inl 0) 0 4 (iI 0)) (.inl 0) 0 8 (iI 0)) (.inl 0) 0 9 (iI (-1))).1 (.inl 0) 0 8 = iI 0 := by rw [au_s, if_neg (by omega), au_s, if_pos rfl]
  have k9 : (am_u (am_u (am_u (am_u (am_u h (.inl 0) 0 3 (iI b.1)) (.inl 0) 0 2 (iI 0)) (.inl 0) 0 4 (iI 0)) (.inl 0) 0 8 (iI 0)) (.inl 0) 0 9 (iI (-1))).1 (.inl 0) 0 9 = iI (-1) := by rw [au_s, if_pos rfl]
  have kj : ∀ j, j < 2 ∨ 9 < j → (am_u (am_u (am_u (am_u (am_u h (.inl 0) 0 3 (iI b.1)) (.inl 0) 0 2 (iI 0)) (.inl 0) 0 4 (iI 0)) (.inl 0) 0 8 (iI 0)) (.inl 0) 0 9 (iI (-1))).1 (.inl 0) 0 j = h.1 (.inl 0) 0 j := fun j hj => by rw [au_s, if_neg (by omega), au_s, if_neg (by omega), au_s, if_neg (by omega), au_s, if_neg (by omega), au_s, if_neg (by omega)]
  have eA : f_X12_beginsText h = (f_X12_goOn (am_u (am_u (am_u (am_u (am_u h (.inl 0) 0 3 (iI b.1)) (.inl 0) 0 2 (iI 0)) (.inl 0) 0 4 (iI 0)) (.inl 0) 0 8 (iI 0)) (.inl 0) 0 9 (iI (-1)))).bind (fun a1 => some a1) := by
    unfold f_X12_beginsText
    rw [R.1, am_lt, am_lt, am_lt, am_lt, am_lt]
  rw [eA]
  generalize (am_u (am_u (am_u (am_u (am_u h (.inl 0) 0 3 (iI b.1)) (.inl 0) 0 2 (iI 0)) (.inl 0) 0 4 (iI 0)) (.inl 0) 0 8 (iI 0)) (.inl 0) 0 9 (iI (-1))) = h1 at *
  have Rb : mo_b h1 b := ⟨k3, fun i hi => by rw [w0.1 _ _ (by simp)]; exact R.2 i hi⟩
  obtain ⟨h', e1, t, k⟩ := m_goOn hb Rb (p := 0) (Nat.zero_le _) k4
  exact ⟨h', by rw [e1, Option.bind_some], ⟨t, by rw [k 8 (by omega)]; exact k8, by rw [k 9 (by omega)]; exact k9⟩, by rw [k 2 (by omega)]; exact k2, fun j hj => by rw [k j (by omega)]; exact kj j hj, w0.tr (wr_X12_goOn e1)⟩
theorem m_clears : ∃ h', f_X12_clears h = some h' ∧ mo_pl h' v0 := by
  obtain ⟨s1, e1, p1⟩ := ch_rel (fun i s => f_X12_clears_2 (iI i) s) (fun i s => ∀ j, j < i → s.1 (.inl 0) 2 j = iI 0) (n := 408) (fun i s hi hs => by
    refine ⟨am_u s (.inl 0) 2 i (iI 0), ?_, fun j hj => ?_⟩
    · show f_X12_clears_2 _ _ = f_X12_clears_2 _ _
      rw [e_X12_clears_2]
      simp (disch := omega) only [xI_le, xI_lt, xI_eq, xI_0, xI_ib, if_pos, if_neg, if_true, if_false, xI_cl, Int.toNat_natCast, iI_m, iI_a, iI_s, iI_1, xI_n, Option.bind_some, Int.natCast_add, Int.natCast_one, xI_zb, if_bI0, if_bI1, xI_rn, xI_ti, am_lt]
    · rw [au_s]
      by_cases c : j = i
      · rw [if_pos c]
      · rw [if_neg c]; exact hs j (by omega)) (s0 := h) (fun j hj => absurd hj (Nat.not_lt_zero j))
  obtain ⟨s2, e2, p2⟩ := ch_rel (fun i s => f_X12_clears_24 (iI i) s) (fun i s => s.1 = s1.1) (n := 6) (fun i s hi hs => by
    refine ⟨am_ul s (.inl 0) 7 i 0, ?_, hs⟩
    show f_X12_clears_24 _ _ = f_X12_clears_24 _ _
    rw [e_X12_clears_24]
    simp (disch := omega) only [xI_le, xI_lt, xI_eq, xI_0, xI_ib, if_pos, if_neg, if_true, if_false, xI_cl, Int.toNat_natCast, iI_m, iI_a, iI_s, iI_1, xI_n, Option.bind_some, Int.natCast_add, Int.natCast_one, xI_zb, if_bI0, if_bI1, xI_rn, xI_ti, am_lt]) (s0 := s1) rfl
  obtain ⟨s3, e3, p3, p4⟩ := ch_rel (fun i s => f_X12_clears_45 (iI i) s) (fun i s => (∀ j, j < i → s.1 (.inl 0) 2 (104 + j) = iI 4) ∧ ∀ j, j < 104 ∨ 104 + 26 ≤ j → s.1 (.inl 0) 2 j = s1.1 (.inl 0) 2 j) (n := 26) (fun i s hi hs => by
    obtain ⟨q1, q2⟩ := hs
    refine ⟨am_u s (.inl 0) 2 (104 + i) (iI 4), ?_, fun j hj => ?_, fun j hj => ?_⟩
    · show f_X12_clears_45 _ _ = f_X12_clears_45 _ _
      rw [e_X12_clears_45]
      simp (disch := omega) only [xI_le, xI_lt, xI_eq, xI_0, xI_ib, if_pos, if_neg, if_true, if_false, xI_cl, Int.toNat_natCast, iI_m, iI_a, iI_s, iI_1, xI_n, Option.bind_some, Int.natCast_add, Int.natCast_one, xI_zb, if_bI0, if_bI1, xI_rn, xI_ti, am_lt, show (104 + (i : Int)).toNat = 104 + i from by omega]
    · rw [au_s]
      by_cases c : j = i
      · rw [if_pos (by omega)]
      · rw [if_neg (by omega)]; exact q1 j (by omega)
    · rw [au_s, if_neg (by omega)]; exact q2 j hj) (s0 := s2) ⟨fun j hj => absurd hj (Nat.not_lt_zero j), fun j _ => by rw [p2]⟩
  have key : ∀ j, j < 104 → j ≠ 3 → j ≠ 4 → j ≠ 5 → (am_u (am_u (am_u s3 (.inl 0) 2 3 (iI 50)) (.inl 0) 2 4 (iI 1)) (.inl 0) 2 5 (iI 1)).1 (.inl 0) 2 j = iI 0 := fun j hj h3 h4 h5 => by
    rw [au_s, if_neg h5, au_s, if_neg h4, au_s, if_neg h3, p4 j (by omega), p1 j (by omega)]
  refine ⟨am_u (am_u (am_u s3 (.inl 0) 2 3 (iI 50)) (.inl 0) 2 4 (iI 1)) (.inl 0) 2 5 (iI 1), ?_, ⟨key 0 (by omega) (by omega) (by omega) (by omega), key 1 (by omega) (by omega) (by omega) (by omega), key 2 (by omega) (by omega) (by omega) (by omega), ?_, ?_, ?_, key 6 (by omega) (by omega) (by omega) (by omega), key 7 (by omega) (by omega) (by omega) (by omega), key 8 (by omega) (by omega) (by omega) (by omega)⟩, fun i hi => absurd hi (Nat.not_lt_zero i), fun i hi => absurd hi (Nat.not_lt_zero i), fun i hi => ?_, fun i hi => absurd hi (Nat.not_lt_zero i), fun i hi => absurd hi (Nat.not_lt_zero i)⟩
  · unfold f_X12_clears
    refine Eq.trans e1 ?_
    show f_X12_clears_2 _ _ = _
    rw [e_X12_clears_2, if_pos (by decide)]
    refine Eq.trans e2 ?_
    show f_X12_clears_24 _ _ = _
    rw [e_X12_clears_24, if_pos (by decide)]
    refine Eq.trans e3 ?_
    show f_X12_clears_45 _ _ = _
    rw [e_X12_clears_45]
    simp (disch := omega) only [xI_le, xI_lt, xI_eq, xI_0, xI_ib, if_pos, if_neg, if_true, if_false, xI_cl, Int.toNat_natCast, iI_m, iI_a, iI_s, iI_1, xI_n, Option.bind_some, Int.natCast_add, Int.natCast_one, xI_zb, if_bI0, if_bI1, xI_rn, xI_ti, am_lt, show (3 : Int).toNat = 3 from rfl, show (4 : Int).toNat = 4 from rfl, show (5 : Int).toNat = 5 from rfl]
  · rw [au_s, if_neg (by omega), au_s, if_neg (by omega), au_s, if_pos rfl]; rfl
  · rw [au_s, if_neg (by omega), au_s, if_pos rfl]; rfl
  · rw [au_s, if_pos rfl]; rfl
  · rw [au_s, if_neg (by omega), au_s, if_neg (by omega), au_s, if_neg (by omega)]; exact p3 i hi
/-- what all but the plate, the buffer, the error is, is left alone -/
theorem mo_rdR {h' : am_H} {w : pv_T} {u : Nat} {e : Int × Int} (hu : u ≤ st.2.2.1.1) (e2 : h'.1 (.inl 0) 0 2 = iI 0) (e10 : h'.1 (.inl 0) 0 10 = iI e.1) (e11 : h'.1 (.inl 0) 0 11 = iI e.2) (e21 : h'.1 (.inl 0) 0 21 = iI u) (kj : ∀ j, j = 22 ∨ j = 35 ∨ j = 36 → h'.1 (.inl 0) 0 j = h.1 (.inl 0) 0 j) (ko : ∀ o, o = 3 ∨ o = 6 ∨ o = 17 → h'.1 (.inl 0) o = h.1 (.inl 0) o) (kl : h'.2.1 (.inl 0) 8 = h.2.1 (.inl 0) 8) (P : mo_pl h' w) (N : mo_nm h' 7 w) (R : MoR h st) : MoR h' (setPl (setU (stB st (0, st.2.2.2.1.2) e) u) w) := by
  obtain ⟨⟨r1, r1n⟩, r2, ⟨r3, r4⟩, r5, r6, r7⟩ := R
  refine ⟨⟨P, N⟩, ?_, ⟨e21, fun i hi => ?_⟩, ⟨e2, fun i hi => absurd hi (Nat.not_lt_zero i)⟩, ⟨e10, e11⟩, ?_⟩
  · unfold mo_nm at *
    rw [kj 22 (by omega), ko 3 (by omega), kl]; exact r2
  · rw [ko 6 (by omega)]; exact r4 i (Nat.lt_of_lt_of_le hi hu)
  · rw [kj 36 (by omega), kj 35 (by omega), ko 17 (by omega)]; exact r7
theorem m_endsText0 {e : Int × Int} (E : mo_er h e) : f_X12_endsText h = some (iI 0, am_u (am_u (am_u h (.inl 0) 0 10 (iI e.1)) (.inl 0) 0 11 (iI e.2)) (.inl 0) 0 0 (iI 1)) := by
  have := E.2.2
  unfold f_X12_endsText
  simp (disch := omega) only [xI_le, xI_lt, xI_eq, xI_0, xI_ib, if_pos, if_neg, if_true, if_false, xI_cl, Int.toNat_natCast, iI_m, iI_a, iI_s, iI_1, xI_n, Option.bind_some, Int.natCast_add, Int.natCast_one, xI_zb, if_bI0, if_bI1, xI_rn, xI_ti, E.1, E.2.1, am_lt, au_s, m_goes0, if_pos (show zb (iI 0) from Or.inl rfl)]
theorem m_endsText1 (e8 : h.1 (.inl 0) 0 8 = iI 0) (e9 : h.1 (.inl 0) 0 9 = iI (-1)) : f_X12_endsText h = some (iI 1, am_u (am_u (am_u h (.inl 0) 0 10 (iI 0)) (.inl 0) 0 11 (iI (-1))) (.inl 0) 0 0 (iI 0)) := by
  unfold f_X12_endsText
  simp (disch := omega) only [xI_le, xI_lt, xI_eq, xI_0, xI_ib, if_pos, if_neg, if_true, if_false, xI_cl, Int.toNat_natCast, iI_m, iI_a, iI_s, iI_1, xI_n, Option.bind_some, Int.natCast_add, Int.natCast_one, xI_zb, if_bI0, if_bI1, xI_rn, xI_ti, e8, e9, am_lt, au_s, m_goes1, if_pos (show zb (iI 1) from Or.inr rfl)]
theorem mo_readText (ok : Ok st) (R : MoR h st) : moC f_X12_readText h (sRTf st (rdT st)) (oRTf (rdT st)) ex1 := by
  have hb : bOk st.2.2.2.1 := ok.2.2.2.1
  have Bf : mo_bf h st.2.2.2.1 := R.2.2.2.1
  have hTo := tkA_ok (b := st.2.2.2.1) (p := 0) (Nat.zero_le _)
  obtain ⟨h1, e1, t1, z2, kj1, w1⟩ := m_begins hb Bf
  obtain ⟨h2, e2, c2, w2⟩ := m_laysAside h1
  obtain ⟨h3, e3, c3⟩ := m_copiesNames (h := h2) (o0 := 7) (o1 := 9) (by omega)
  have w3 := wr_X12_copiesNames e3
  obtain ⟨h4, e4, P4⟩ := m_clears (h := h3)
  have w4 := wr_X12_clears e4
  have t4 := ((t1.wr w2 (by simp) (by simp)).wr w3 (by simp) (by simp)).wr w4 (by simp) (by simp)
  have w5 : Wr [(.inl 0, 0)] h4 (am_u h4 (.inl 0) 0 23 (iI 0)) := Wr.u (by simp)
  have Ps : mo_ps (am_u h4 (.inl 0) 0 23 (iI 0)) st.2.2.2.1 v0 (tkA st.2.2.2.1 0) := ⟨t4.u23, P4.tf w5, fun q hq => absurd hq (Nat.not_lt_zero q)⟩
  have F5 : mo_fg (am_u h4 (.inl 0) 0 23 (iI 0)) g0 := by
    unfold mo_fg
    rw [au_s, if_pos rfl]
    exact ⟨by decide, by decide, by decide⟩
  obtain ⟨h6, e6, q6, f6⟩ := m_rdLoop hb 500 (by omega) hTo.1 v0_Z Ps F5
  have eA : f_X12_readText h = f_X12_readText_49 h6 := by
    unfold f_X12_readText
    rw [e1, Option.bind_some, e2, Option.bind_some, e3, Option.bind_some, e4, Option.bind_some, am_lt]
    exact e6
  -- what stayed up to here
  have kj : ∀ j, j = 2 ∨ j = 21 ∨ j = 22 ∨ j = 35 ∨ j = 36 → h6.1 (.inl 0) 0 j = h1.1 (.inl 0) 0 j := fun j hj => by
    rw [f6.1 j (by omega), au_s, if_neg (by omega), w4.1 _ _ (by simp), w3.1 _ _ (by simp), w2.1 _ _ (by simp)]
  have ko : ∀ o, o = 3 ∨ o = 6 ∨ o = 17 → h6.1 (.inl 0) o = h.1 (.inl 0) o := fun o ho => by
    rw [f6.2.1 _ _ (by simp; omega), w5.1 _ _ (by simp; omega), w4.1 _ _ (by simp; omega), w3.1 _ _ (by simp; omega), w2.1 _ _ (by simp; omega), w1.1 _ _ (by simp; omega)]
  have kl8 : h6.2.1 (.inl 0) 8 = h.2.1 (.inl 0) 8 := by
    rw [f6.2.2.1 _ _ (by simp), w5.2.1 _ _ (by simp), w4.2.1 _ _ (by simp), w3.2.1 _ _ (by simp), w2.2.1 _ _ (by simp), w1.2.1 _ _ (by simp)]
  have k4 : ∀ j, j < 408 → h6.1 (.inl 0) 4 j = h.1 (.inl 0) 2 j := fun j hj => by
    rw [f6.2.1 _ _ (by simp), w5.1 _ _ (by simp), w4.1 _ _ (by simp), w3.1 _ _ (by simp), c2 j hj, w1.1 _ _ (by simp)]
  have kl9 : ∀ q, q < 6 → h6.2.1 (.inl 0) 9 q = h.2.1 (.inl 0) 7 q := fun q hq => by
    rw [f6.2.2.1 _ _ (by simp), w5.2.1 _ _ (by simp), w4.2.1 _ _ (by simp), c3 q hq, w2.2.1 _ _ (by simp), w1.2.1 _ _ (by simp)]
  have w0 : CFr h h6 := (w1.CF rfl).tr ((w2.CF rfl).tr ((w3.CF rfl).tr ((w4.CF rfl).tr ((w5.CF rfl).tr (f6.2.CF rfl)))))
  show moC f_X12_readText h (sRTf st (sTxt st.2.2.2.1 500 v0 g0 (tkA st.2.2.2.1 0))) (oRTf (sTxt st.2.2.2.1 500 v0 g0 (tkA st.2.2.2.1 0))) ex1
  generalize sTxt st.2.2.2.1 500 v0 g0 (tkA st.2.2.2.1 0) = r at *
  have r21 : h.1 (.inl 0) 0 21 = iI st.2.2.1.1 := R.2.2.1.1
  cases r with
  | inl e =>
    have E : mo_er h6 e := q6
    have eE := m_endsText0 E
    have w7 : Wr [(.inl 0, 0)] h6 (am_u (am_u (am_u h6 (.inl 0) 0 10 (iI e.1)) (.inl 0) 0 11 (iI e.2)) (.inl 0) 0 0 (iI 1)) := (Wr.u (by simp)).tr ((Wr.u (by simp)).tr (Wr.u (by simp)))
    have x0 : (am_u (am_u (am_u h6 (.inl 0) 0 10 (iI e.1)) (.inl 0) 0 11 (iI e.2)) (.inl 0) 0 0 (iI 1)).1 (.inl 0) 0 0 = iI 1 := by rw [au_s, if_pos rfl]
    have x10 : (am_u (am_u (am_u h6 (.inl 0) 0 10 (iI e.1)) (.inl 0) 0 11 (iI e.2)) (.inl 0) 0 0 (iI 1)).1 (.inl 0) 0 10 = iI e.1 := by rw [au_s, if_neg (by omega), au_s, if_neg (by omega), au_s, if_pos rfl]
    have x11 : (am_u (am_u (am_u h6 (.inl 0) 0 10 (iI e.1)) (.inl 0) 0 11 (iI e.2)) (.inl 0) 0 0 (iI 1)).1 (.inl 0) 0 11 = iI e.2 := by rw [au_s, if_neg (by omega), au_s, if_pos rfl]
    have xj : ∀ j, j = 2 ∨ j = 21 ∨ j = 22 ∨ j = 35 ∨ j = 36 → (am_u (am_u (am_u h6 (.inl 0) 0 10 (iI e.1)) (.inl 0) 0 11 (iI e.2)) (.inl 0) 0 0 (iI 1)).1 (.inl 0) 0 j = h1.1 (.inl 0) 0 j := fun j hj => by rw [au_s, if_neg (by omega), au_s, if_neg (by omega), au_s, if_neg (by omega), kj j hj]
    generalize (am_u (am_u (am_u h6 (.inl 0) 0 10 (iI e.1)) (.inl 0) 0 11 (iI e.2)) (.inl 0) 0 0 (iI 1)) = h7 at *
    obtain ⟨h8, e8, c8, -⟩ := m_copiesRow (h := h7) (o0 := 4) (n0 := 408) (o2 := 2) (n2 := 408) (a := 0) (b := 0) (by omega) (by omega) (by omega) (by omega) (by omega)
    have w8 := wr_X12_copiesRow e8
    obtain ⟨h9, e9, c9⟩ := m_copiesNames (h := h8) (o0 := 9) (o1 := 7) (by omega)
    have w9 := wr_X12_copiesNames e9
    have hv := ok.1.1
    have P9 : mo_pl h9 st.1 := by
      refine R.1.1.e408 hv (fun j hj => ?_)
      have := c8 j hj
      rw [Nat.zero_add] at this
      rw [w9.1 _ _ (by simp), this, w7.1 _ _ (by simp)]
      exact k4 j hj
    have N9 : mo_nm h9 7 st.1 := fun q hq => by
      have h6' := hv.1.2.2.1
      rw [c9 q (by omega), w8.2.1 _ _ (by simp), w7.2.1 _ _ (by simp), kl9 q (by omega)]
      exact R.1.2 q hq
    have k98 : ∀ j, h9.1 (.inl 0) 0 j = h7.1 (.inl 0) 0 j := fun j => by rw [w9.1 _ _ (by simp), w8.1 _ _ (by simp)]
    have M := mo_rdR (h' := h9) (w := st.1) (u := st.2.2.1.1) (e := e) (Nat.le_refl _) (by rw [k98, xj 2 (by omega)]; exact z2) (by rw [k98]; exact x10) (by rw [k98]; exact x11) (by rw [k98, xj 21 (by omega), kj1 21 (by omega)]; exact r21) (fun j hj => by rw [k98, xj j (by omega), kj1 j (by omega)]) (fun o ho => by rw [w9.1 _ _ (by simp; omega), w8.1 _ _ (by simp; omega), w7.1 _ _ (by simp; omega)]; exact ko o ho) (by rw [w9.2.1 _ _ (by simp), w8.2.1 _ _ (by simp), w7.2.1 _ _ (by simp)]; exact kl8) P9 N9 R
    refine ⟨iI 0, h9, ?_, M, w0.tr ((w7.CF rfl).tr ((w8.CF rfl).tr (w9.CF rfl))), ?_⟩
    · have e8' : f_X12_copiesRow 4 408 (iI 0) 2 408 (iI 0) h7 = some h8 := e8
      rw [eA, e_X12_readText_49, eE, Option.bind_some]
      dsimp only
      rw [if_pos (by decide), e8', Option.bind_some, e9, Option.bind_some]
    · rw [k98, x0]
      exact agr1
  | inr w =>
    obtain ⟨y8, y9, P6, N6⟩ := q6
    have eE := m_endsText1 y8 y9
    have w7 : Wr [(.inl 0, 0)] h6 (am_u (am_u (am_u (am_u h6 (.inl 0) 0 10 (iI 0)) (.inl 0) 0 11 (iI (-1))) (.inl 0) 0 0 (iI 0)) (.inl 0) 0 21 (iI 0)) := (Wr.u (by simp)).tr ((Wr.u (by simp)).tr ((Wr.u (by simp)).tr (Wr.u (by simp))))
    have x0 : (am_u (am_u (am_u (am_u h6 (.inl 0) 0 10 (iI 0)) (.inl 0) 0 11 (iI (-1))) (.inl 0) 0 0 (iI 0)) (.inl 0) 0 21 (iI 0)).1 (.inl 0) 0 0 = iI 0 := by rw [au_s, if_neg (by omega), au_s, if_pos rfl]
    have M := mo_rdR (h' := am_u (am_u (am_u (am_u h6 (.inl 0) 0 10 (iI 0)) (.inl 0) 0 11 (iI (-1))) (.inl 0) 0 0 (iI 0)) (.inl 0) 0 21 (iI 0)) (w := w) (u := 0) (e := (0, -1)) (Nat.zero_le _) (by rw [au_s, if_neg (by omega), au_s, if_neg (by omega), au_s, if_neg (by omega), au_s, if_neg (by omega), kj 2 (by omega)]; exact z2) (by rw [au_s, if_neg (by omega), au_s, if_neg (by omega), au_s, if_neg (by omega), au_s, if_pos rfl]) (by rw [au_s, if_neg (by omega), au_s, if_neg (by omega), au_s, if_pos rfl]) (by rw [au_s, if_pos rfl]; rfl) (fun j hj => by rw [au_s, if_neg (by omega), au_s, if_neg (by omega), au_s, if_neg (by omega), au_s, if_neg (by omega), kj j (by omega), kj1 j (by omega)]) (fun o ho => by rw [w7.1 _ _ (by simp; omega)]; exact ko o ho) (by rw [w7.2.1 _ _ (by simp)]; exact kl8) (P6.tf w7) (N6.tf w7 (by omega)) R
    refine ⟨iI (w.1 1), _, ?_, M, w0.tr (w7.CF rfl), ?_⟩
    · have r1 : (am_u (am_u (am_u (am_u h6 (.inl 0) 0 10 (iI 0)) (.inl 0) 0 11 (iI (-1))) (.inl 0) 0 0 (iI 0)) (.inl 0) 0 21 (iI 0)).1 (.inl 0) 2 1 = iI (w.1 1) := by rw [w7.1 _ _ (by simp)]; exact P6.1.2.1
      have ib1 : ib (iI 1) 408 := by rw [xI_ib (by omega) (by omega) (by omega)]; trivial
      rw [eA, e_X12_readText_49, eE, Option.bind_some]
      dsimp only
      rw [if_neg (by decide), am_lt, if_pos ib1, show (iI 1).toNatClampNeg = 1 from rfl, r1]
    · rw [x0]
      exact agrv
end MRD
