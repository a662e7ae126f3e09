/-! scripts read, the program's -/
def cl_st (h : am_H) (S : SC) : Prop := h.1 (.inl 1) 11 4 = iI S.1 ∧ ∀ i, i < S.1 → h.1 (.inl 1) 12 i = iI (S.2.1 i) ∧ (S.2.1 i ≠ 1 → h.1 (.inl 1) 13 i = iI (S.2.2 i))
def cl_ss (h : am_H) (S : SC) (c : Nat) : Prop := cl_st h S ∧ h.1 (.inl 1) 11 5 = iI c ∧ h.1 (.inl 1) 11 6 = iI (scD S) ∧ ∀ j, j < scD S → h.1 (.inl 1) 15 j = iI (scT S j)
section CSC
variable {h : am_H} {b : bfT} {T : Tk} {S : SC} {c : Nat}
theorem cl_ss.wr {h' : am_H} {L : List (am_G × Nat)} (w : Wr L h h') (h11 : ((.inl 1 : am_G), 11) ∉ L) (h12 : ((.inl 1 : am_G), 12) ∉ L) (h13 : ((.inl 1 : am_G), 13) ∉ L) (h15 : ((.inl 1 : am_G), 15) ∉ L) (R : cl_ss h S c) : cl_ss h' S c := by
  unfold cl_ss cl_st at *
  rw [w.1 _ _ h11, w.1 _ _ h12, w.1 _ _ h13, w.1 _ _ h15]; exact R
theorem cl_ss.t8 {h' : am_H} (w : Wr [(.inl 1, 8)] h h') (R : cl_ss h S c) : cl_ss h' S c := R.wr w (by simp) (by simp) (by simp) (by simp)
theorem k_addStep {q n : Int} {y : Int32} (h60 : S.1 < 60) (hy : q ≠ 1 → y = iI n) (R : cl_st h S) : ∃ h', f_X8_addStep (iI q) y h = some h' ∧ cl_st h' (scP S q n) ∧ (∀ j, j ≠ 4 → h'.1 (.inl 1) 11 j = h.1 (.inl 1) 11 j) ∧ Wr [(.inl 1, 12), (.inl 1, 13), (.inl 1, 11)] h h' := by
  obtain ⟨r4, r⟩ := R
  refine ⟨am_u (am_u (am_u h (.inl 1) 12 S.1 (iI q)) (.inl 1) 13 S.1 y) (.inl 1) 11 4 (iI ((S.1 : Int) + 1)), ?_, ⟨?_, fun i hi => ?_⟩, fun j hj => by rw [au_s, if_neg hj, am_u_row (by simp), am_u_row (by simp)], (Wr.u (by simp)).tr ((Wr.u (by simp)).tr (Wr.u (by simp)))⟩
  · unfold f_X8_addStep
    simp (disch := omega) only [xI_le, xI_lt, xI_eq, xI_0, xI_ib, if_pos, if_neg, if_true, if_false, xI_cl, Int.toNat_natCast, iI_m, iI_a, iI_s, iI_1, xI_n, Option.bind_some, Int.natCast_add, Int.natCast_one, xI_zb, if_bI0, if_bI1, xI_rn, xI_ti, r4, am_lt, am_u_row (show ((.inl 1 : am_G), 11) ≠ (.inl 1, 12) by simp), am_u_row (show ((.inl 1 : am_G), 11) ≠ (.inl 1, 13) by simp)]
  · rw [au_s, if_pos rfl]; rfl
  · have hi' : i < S.1 + 1 := hi
    rw [am_u_row (by simp), am_u_row (by simp), au_s, am_u_row (by simp), au_s, am_u_row (by simp)]
    by_cases d : i = S.1
    · subst d
      rw [if_pos rfl, if_pos rfl, scP_s.1, scP_s.2]
      exact ⟨rfl, hy⟩
    · rw [if_neg d, if_neg d, (scP_lt (by omega)).1, (scP_lt (by omega)).2]
      exact r i (by omega)
theorem k_commandAt (hb : bOk b) (hT : tk_ok b T) (R : cl_tk h b T) : f_X8_commandAt h = some (iI (cmdT b T)) := by
  have e0 := k_isWord hb hT R (t := 9) (by omega)
  have e1 := k_isWord hb hT R (t := 10) (by omega)
  have e2 := k_isWord hb hT R (t := 11) (by omega)
  have e3 := k_isWord hb hT R (t := 12) (by omega)
  have e4 := k_isWord hb hT R (t := 13) (by omega)
  have e5 := k_isWord hb hT R (t := 6) (by omega)
  have e6 := k_isWord hb hT R (t := 14) (by omega)
  have st : ∀ {t : Nat} {X Y : Option Int32}, f_X10_isWord t h = some (iI (bI (isW b T t = true))) → ((f_X10_isWord t h).bind (fun a => if a = 0 then X else Y)) = if isW b T t = true then Y else X := fun {t X Y} e => by
    rw [e, Option.bind_some]
    by_cases d : isW b T t = true
    · rw [if_pos d, if_neg (by rw [show bI (isW b T t = true) = 1 from if_pos d]; decide)]
    · rw [if_neg d, if_pos (by rw [show bI (isW b T t = true) = 0 from if_neg d]; decide)]
  unfold f_X8_commandAt cmdT
  rw [st e0]
  split
  · rfl
  · rw [st e1]
    split
    · rfl
    · rw [st e2]
      split
      · rfl
      · rw [st e3]
        split
        · rfl
        · rw [st e4]
          split
          · rfl
          · rw [st e5]
            split
            · rfl
            · rw [st e6]
              split <;> rfl
abbrev SQ (b : bfT) (x : SC × Nat × Tk) (h' : am_H) : Prop := cl_tk h' b x.2.2 ∧ cl_ss h' x.1 x.2.1
theorem k_signS (hb : bOk b) (hT : tk_ok b T) (R : cl_tk h b T) (SS : cl_ss h S c) {s : Int} (hs : 0 ≤ s ∧ s ≤ 127) : cK ((f_X10_takeSign (iI s) h).bind (fun a => if zb a.1 then some (a.1, a.2) else none)) ((sSign b T s).bd (fun T' => .inr (S, c, T'))) (SQ b) := ((k_takeSign hb hT R hs).wr (F := fun h' => cl_ss h' S c) (fun a e => SS.t8 (wr_X10_takeSign e))).zz.map (fun x h' q => ⟨q.1, q.2⟩)
theorem k_readCommand (hb : bOk b) (hT : tk_ok b T) (hS : sc_ok S c) (R : cl_tk h b T) (SS : cl_ss h S c) : cK (f_X8_readCommand h) (sCom b S c T) (SQ b) := by
  have hA := adv_ok hT
  have hq := cmdT_b b T
  have ec := k_commandAt hb hT R
  obtain ⟨hc30, hsz, hd2, -⟩ := hS
  obtain ⟨St, r5, r6, r15⟩ := SS
  -- behind the tests
  have e36 : ¬ cmdT b T = -1 → ¬ (cmdT b T = 6 ∧ 2 ≤ scD S) → cK (f_X8_readCommand_36 (iI (cmdT b T)) h) (if 30 ≤ c then .inl (5, (T.2.1 : Int)) else if cmdT b T = 6 then (sNum b (tkA b T.2.2) 1 20).bd (fun x => (sSign b x.2 40).bd (fun T' => .inr (scP S 6 x.1, c + 1, T')))
    else if cmdT b T = 1 then (sSign b (tkA b T.2.2) 59).bd (fun T' => .inr (scP S 1 0, c + 1, T'))
    else (sNum b (tkA b T.2.2) 0 999).bd (fun x => (sSign b x.2 59).bd (fun T' => .inr (scP S (cmdT b T) x.1, c + 1, T')))) (SQ b) := fun q1 q2 => by
    unfold f_X8_readCommand_36
    rw [r5]
    by_cases c30 : 30 ≤ c
    · rw [if_pos c30, if_neg (by rw [xI_lt (by omega) (by omega) (by omega) (by omega)]; omega)]
      exact k_failz R
    · rw [if_neg c30, if_pos (by rw [xI_lt (by omega) (by omega) (by omega) (by omega)]; omega), am_lt, iI_a]
      have w0 : Wr [(.inl 1, 11)] h (am_u h (.inl 1) 11 5 (iI ((c : Int) + 1))) := Wr.u (by simp)
      have S0 : cl_st (am_u h (.inl 1) 11 5 (iI ((c : Int) + 1))) S := ⟨by rw [au_s, if_neg (by omega)]; exact St.1, fun i hi => by rw [am_u_row (by simp), am_u_row (by simp)]; exact St.2 i hi⟩
      have x5 : (am_u h (.inl 1) 11 5 (iI ((c : Int) + 1))).1 (.inl 1) 11 5 = iI ((c + 1 : Nat) : Int) := by rw [au_s, if_pos rfl]; rfl
      have x6 : (am_u h (.inl 1) 11 5 (iI ((c : Int) + 1))).1 (.inl 1) 11 6 = iI (scD S) := by rw [au_s, if_neg (by omega)]; exact r6
      have x15 : ∀ j, j < scD S → (am_u h (.inl 1) 11 5 (iI ((c : Int) + 1))).1 (.inl 1) 15 j = iI (scT S j) := fun j hj => by rw [am_u_row (by simp)]; exact r15 j hj
      have SS0 : cl_ss (am_u h (.inl 1) 11 5 (iI ((c : Int) + 1))) S (c + 1) := ⟨S0, x5, x6, x15⟩
      have R0 := R.wr w0 (by simp) (by simp)
      generalize am_u h (.inl 1) 11 5 (iI ((c : Int) + 1)) = h0 at *
      obtain ⟨h1, e1, t1, -⟩ := k_advance hb hT R0
      have SS1 := SS0.t8 (wr_X10_advance e1)
      rw [e1, Option.bind_some]
      -- a step, then a sign
      have e95 : ∀ (q n : Int) (hh : am_H) (T' : Tk), q ≠ 6 → q ≠ 7 → tk_ok b T' → cl_tk hh b T' → cl_ss hh S (c + 1) → (q ≠ 1 → hh.1 (.inl 1) 8 5 = iI n) → cK (f_X8_readCommand_95 (iI q) hh) ((sSign b T' 59).bd (fun T2 => .inr (scP S q n, c + 1, T2))) (SQ b) := fun q n hh T' q6 q7 o' t' s' hy => by
        obtain ⟨h2, e2, st2, k2, w2⟩ := k_addStep (S := S) (q := q) (n := n) (y := hh.1 (.inl 1) 8 5) (by omega) hy s'.1
        unfold f_X8_readCommand_95
        rw [e2, Option.bind_some]
        refine k_signS hb o' (t'.wr w2 (by simp) (by simp)) ⟨st2, by rw [k2 5 (by omega)]; exact s'.2.1, by rw [k2 6 (by omega), scP_Do q6 q7]; exact s'.2.2.1, fun j hj => ?_⟩ (by omega)
        rw [scP_Do q6 q7] at hj
        rw [w2.1 _ _ (by simp), scP_T (Or.inl q6)]
        exact s'.2.2.2 j hj
      by_cases c6 : cmdT b T = 6
      · rw [if_pos c6, c6, if_pos rfl]
        have hd : scD S < 2 := by omega
        unfold f_X8_readRepeat
        refine cK.zz (cK.bind ((k_takeNumber hb hA.1 t1 (by omega) (by omega)).wr (fun a e => wr_X10_takeNumber e)) (fun x2 h2 s2 q2 => ?_))
        obtain ⟨⟨t2, n2⟩, w2⟩ := q2
        have o2 := sNum_ok hA.1 s2
        have SS2 := SS1.t8 w2
        dsimp only
        rw [SS2.2.2.1, SS2.1.1, if_neg (by rw [xI_le (by omega) (by omega) (by omega) (by omega)]; omega), if_pos (by rw [xI_ib (by omega) (by omega) (by omega)]; trivial), xI_cl (by omega) (by omega), Int.toNat_natCast, am_lt, am_lt]
        have w3 : Wr [(.inl 1, 15), (.inl 1, 11)] h2 (am_u (am_u h2 (.inl 1) 15 (scD S) (iI S.1)) (.inl 1) 11 6 ((am_u h2 (.inl 1) 15 (scD S) (iI S.1)).1 (.inl 1) 11 6 + iI 1)) := (Wr.u (by simp)).tr (Wr.u (by simp))
        have y6 : (am_u (am_u h2 (.inl 1) 15 (scD S) (iI S.1)) (.inl 1) 11 6 ((am_u h2 (.inl 1) 15 (scD S) (iI S.1)).1 (.inl 1) 11 6 + iI 1)).1 (.inl 1) 11 6 = iI ((scD S + 1 : Nat) : Int) := by
          rw [au_s, if_pos rfl, am_u_row (by simp), SS2.2.2.1, iI_a]; rfl
        have y5 : (am_u (am_u h2 (.inl 1) 15 (scD S) (iI S.1)) (.inl 1) 11 6 ((am_u h2 (.inl 1) 15 (scD S) (iI S.1)).1 (.inl 1) 11 6 + iI 1)).1 (.inl 1) 11 5 = iI ((c + 1 : Nat) : Int) := by
          rw [au_s, if_neg (by omega), am_u_row (by simp)]; exact SS2.2.1
        have y15 : ∀ j, (am_u (am_u h2 (.inl 1) 15 (scD S) (iI S.1)) (.inl 1) 11 6 ((am_u h2 (.inl 1) 15 (scD S) (iI S.1)).1 (.inl 1) 11 6 + iI 1)).1 (.inl 1) 15 j = if j = scD S then iI S.1 else h2.1 (.inl 1) 15 j := fun j => by
          rw [am_u_row (by simp), au_s]
        have S3 : cl_st (am_u (am_u h2 (.inl 1) 15 (scD S) (iI S.1)) (.inl 1) 11 6 ((am_u h2 (.inl 1) 15 (scD S) (iI S.1)).1 (.inl 1) 11 6 + iI 1)) S := ⟨by rw [au_s, if_neg (by omega), am_u_row (by simp)]; exact SS2.1.1, fun i hi => by rw [am_u_row (by simp), am_u_row (by simp), am_u_row (by simp), am_u_row (by simp)]; exact SS2.1.2 i hi⟩
        have t3 := t2.wr w3 (by simp) (by simp)
        have n3 : (am_u (am_u h2 (.inl 1) 15 (scD S) (iI S.1)) (.inl 1) 11 6 ((am_u h2 (.inl 1) 15 (scD S) (iI S.1)).1 (.inl 1) 11 6 + iI 1)).1 (.inl 1) 8 5 = iI x2.1 := by rw [w3.1 _ _ (by simp)]; exact n2
        generalize (am_u (am_u h2 (.inl 1) 15 (scD S) (iI S.1)) (.inl 1) 11 6 ((am_u h2 (.inl 1) 15 (scD S) (iI S.1)).1 (.inl 1) 11 6 + iI 1)) = h3 at *
        obtain ⟨h4, e4, st4, k4, w4⟩ := k_addStep (S := S) (q := 6) (n := x2.1) (y := h3.1 (.inl 1) 8 5) (by omega) (fun _ => n3) S3
        unfold f_X8_readRepeat_43
        rw [e4, Option.bind_some]
        refine k_signS hb o2.1 (t3.wr w4 (by simp) (by simp)) ⟨st4, by rw [k4 5 (by omega)]; exact y5, by rw [k4 6 (by omega), scP_D6]; exact y6, fun j hj => ?_⟩ (by omega)
        rw [scP_D6] at hj
        rw [w4.1 _ _ (by simp), y15]
        by_cases d : j = scD S
        · rw [if_pos d, d, scP_T6]
        · rw [if_neg d, scP_T (Or.inr d)]
          exact SS2.2.2.2 j (by omega)
      · rw [if_neg c6, if_neg (by rw [xI_eq (by omega) (by omega) (by omega) (by omega)]; exact c6)]
        by_cases c1 : cmdT b T = 1
        · rw [if_pos c1, if_pos (by rw [c1]), c1]
          exact e95 1 0 h1 _ (by omega) (by omega) hA.1 t1 SS1 (fun z => absurd rfl z)
        · rw [if_neg c1, if_neg (by rw [xI_eq (by omega) (by omega) (by omega) (by omega)]; exact c1)]
          refine cK.bind ((k_takeNumber hb hA.1 t1 (by omega) (by omega)).wr (fun a e => wr_X10_takeNumber e)) (fun x2 h2 s2 q2 => ?_)
          obtain ⟨⟨t2, n2⟩, w2⟩ := q2
          have o2 := sNum_ok hA.1 s2
          exact e95 _ x2.1 h2 _ c6 (by omega) o2.1 t2 (SS1.t8 w2) (fun _ => n2)
  unfold f_X8_readCommand sCom
  rw [ec, Option.bind_some]
  by_cases z1 : cmdT b T = -1
  · rw [if_pos z1, if_pos (by rw [z1])]
    exact k_failz R
  · rw [if_neg z1, if_neg (by rw [xI_eq (by omega) (by omega) (by omega) (by omega)]; exact z1)]
    by_cases z6 : cmdT b T = 6
    · rw [if_pos (show iI (cmdT b T) = iI 6 by rw [z6]), r6]
      by_cases zd : 2 ≤ scD S
      · rw [if_neg (by rw [xI_lt (by omega) (by omega) (by omega) (by omega)]; omega), if_pos (show cmdT b T = 6 ∧ 2 ≤ scD S from ⟨z6, zd⟩)]
        exact k_failz R
      · rw [if_pos (by rw [xI_lt (by omega) (by omega) (by omega) (by omega)]; omega), if_neg (show ¬ (cmdT b T = 6 ∧ 2 ≤ scD S) from fun z => zd z.2)]
        exact e36 z1 (fun z => zd z.2)
    · rw [if_neg (show ¬ (iI (cmdT b T) = iI 6) by rw [xI_eq (by omega) (by omega) (by omega) (by omega)]; exact z6), if_neg (show ¬ (cmdT b T = 6 ∧ 2 ≤ scD S) from fun z => z6 z.1)]
      exact e36 z1 (fun z => z6 z.1)
theorem k_readEnd (hb : bOk b) (hT : tk_ok b T) (hS : sc_ok S c) (hd : 0 < scD S) (R : cl_tk h b T) (SS : cl_ss h S c) : cK (f_X8_readEnd h) (sEnd b S c T) (SQ b) := by
  have hA := adv_ok hT
  obtain ⟨hc30, hsz, hd2, -⟩ := hS
  obtain ⟨St, r5, r6, r15⟩ := SS
  unfold f_X8_readEnd sEnd
  rw [r6, if_neg (by rw [xI_0, xI_le (by omega) (by omega) (by omega) (by omega)]; omega), am_lt, iI_s]
  have w0 : Wr [(.inl 1, 11)] h (am_u h (.inl 1) 11 6 (iI ((scD S : Int) - 1))) := Wr.u (by simp)
  have S0 : cl_st (am_u h (.inl 1) 11 6 (iI ((scD S : Int) - 1))) S := ⟨by rw [au_s, if_neg (by omega)]; exact St.1, fun i hi => by rw [am_u_row (by simp), am_u_row (by simp)]; exact St.2 i hi⟩
  have x6 : (am_u h (.inl 1) 11 6 (iI ((scD S : Int) - 1))).1 (.inl 1) 11 6 = iI ((scD S - 1 : Nat) : Int) := by
    rw [au_s, if_pos rfl, show ((scD S - 1 : Nat) : Int) = (scD S : Int) - 1 from by omega]
  have x5 : (am_u h (.inl 1) 11 6 (iI ((scD S : Int) - 1))).1 (.inl 1) 11 5 = iI c := by rw [au_s, if_neg (by omega)]; exact r5
  have x15 : ∀ j, (am_u h (.inl 1) 11 6 (iI ((scD S : Int) - 1))).1 (.inl 1) 15 j = h.1 (.inl 1) 15 j := fun j => by rw [am_u_row (by simp)]
  have R0 := R.wr w0 (by simp) (by simp)
  generalize am_u h (.inl 1) 11 6 (iI ((scD S : Int) - 1)) = h0 at *
  rw [x6, if_pos (by rw [xI_ib (by omega) (by omega) (by omega)]; trivial), xI_cl (by omega) (by omega), Int.toNat_natCast, x15, r15 (scD S - 1) (by omega)]
  obtain ⟨h1, e1, st1, k1, w1⟩ := k_addStep (S := S) (q := 7) (n := scT S (scD S - 1)) (y := iI (scT S (scD S - 1))) (by omega) (fun _ => rfl) S0
  obtain ⟨h2, e2, t2, -⟩ := k_advance hb hT (R0.wr w1 (by simp) (by simp))
  have w2 := wr_X10_advance e2
  rw [e1, Option.bind_some, e2, Option.bind_some]
  refine k_signS hb hA.1 t2 (cl_ss.t8 w2 ⟨st1, by rw [k1 5 (by omega)]; exact x5, by rw [k1 6 (by omega), scP_D7]; exact x6, fun j hj => ?_⟩) (by omega)
  rw [scP_D7] at hj
  rw [w1.1 _ _ (by simp), x15, scP_T (Or.inl (by omega))]
  exact r15 j (by omega)
theorem k_fin (hT : tk_ok b T) (hS : sc_ok S c) (R : cl_tk h b T) (SS : cl_ss h S c) : cK (f_X8_readFrom_77 h) (sFin S T) (fun x h' => cl_st h' x ∧ cl_bf h' b ∧ h'.1 (.inl 1) 8 6 = iI 0 ∧ h'.1 (.inl 1) 8 7 = iI (-1)) := by
  have hd2 := hS.2.2.1
  unfold sFin
  rw [e_X8_readFrom_77, SS.2.2.1]
  by_cases d : scD S = 0
  · rw [if_pos d, d, if_pos (by decide)]
    exact ⟨h, rfl, SS.1, R.1.1, R.2.1, R.2.2⟩
  · rw [if_neg d, if_neg (by rw [xI_0, xI_eq (by omega) (by omega) (by omega) (by omega)]; omega)]
    obtain ⟨h', e, q⟩ := k_fail (X := SC) (Q := fun _ _ => True) (c := 1) R
    exact ⟨h', by rw [e, Option.bind_some]; rfl, q⟩
theorem k_readScr (hb : bOk b) : ∀ (n : Nat), n ≤ 500 → ∀ {h : am_H} {S : SC} {c : Nat} {T : Tk}, tk_ok b T → sc_ok S c → cl_tk h b T → cl_ss h S c → cK (f_X8_readFrom_21 (iI (500 - (n : Int))) h) (sScr b n S c T) (fun x h' => cl_st h' x ∧ cl_bf h' b ∧ h'.1 (.inl 1) 8 6 = iI 0 ∧ h'.1 (.inl 1) 8 7 = iI (-1))
  | 0, _, h, S, c, T, hT, hS, R, SS => by
    rw [e_X8_readFrom_21, if_pos (by rw [xI_le (by omega) (by omega) (by omega) (by omega)]; omega)]
    exact k_fin hT hS R SS
  | n + 1, hn, h, S, c, T, hT, hS, R, SS => by
    have ee := k_isAtEnd hT R
    have hd2 := hS.2.2.1
    rw [e_X8_readFrom_21, if_neg (by rw [xI_le (by omega) (by omega) (by omega) (by omega)]; omega), ee, Option.bind_some]
    unfold sScr
    by_cases c0 : T.1 = 0
    · rw [if_pos c0, if_neg (by rw [show bI (T.1 = 0) = 1 from if_pos c0]; decide)]
      exact k_fin hT hS R SS
    · have en : iI (500 - ((n + 1 : Nat) : Int)) + 1 = iI (500 - (n : Int)) := by
        rw [iI_1, show (500 : Int) - ((n + 1 : Nat) : Int) + 1 = 500 - (n : Int) by omega]
      rw [if_neg c0, if_pos (by rw [show bI (T.1 = 0) = 0 from if_neg c0]; decide), SS.2.2.1]
      have e59 : cK (f_X8_readFrom_59 (iI (500 - ((n + 1 : Nat) : Int))) h) ((sCom b S c T).bd (fun x => sScr b n x.1 x.2.1 x.2.2)) (fun x h' => cl_st h' x ∧ cl_bf h' b ∧ h'.1 (.inl 1) 8 6 = iI 0 ∧ h'.1 (.inl 1) 8 7 = iI (-1)) := by
        rw [e_X8_readFrom_59]
        refine cK.bind (k_readCommand hb hT hS R SS) (fun x h1 s1 q1 => ?_)
        have o1 := sCom_ok hT hS s1
        dsimp only
        rw [en]
        exact k_readScr hb n (by omega) o1.2.1 o1.1 q1.1 q1.2
      by_cases d0 : 0 < scD S
      · rw [if_neg (by rw [xI_0, xI_le (by omega) (by omega) (by omega) (by omega)]; omega), k_isSign hb hT R (c := 41) (by omega), Option.bind_some]
        by_cases d : T.1 = 3 ∧ b.2 T.2.1 = 41
        · rw [if_pos (show clo b S T from ⟨d0, d⟩), if_neg (by rw [show bI (T.1 = 3 ∧ b.2 T.2.1 = 41) = 1 from if_pos d]; decide)]
          refine cK.bind (k_readEnd hb hT hS d0 R SS) (fun x h1 s1 q1 => ?_)
          have o1 := sEnd_ok hT hS d0 s1
          dsimp only
          rw [en]
          exact k_readScr hb n (by omega) o1.2.1 o1.1 q1.1 q1.2
        · rw [if_neg (show ¬ clo b S T from fun z => d z.2), if_pos (by rw [show bI (T.1 = 3 ∧ b.2 T.2.1 = 41) = 0 from if_neg d]; decide)]
          exact e59
      · rw [if_neg (show ¬ clo b S T from fun z => d0 z.1), if_pos (by rw [xI_0, xI_le (by omega) (by omega) (by omega) (by omega)]; omega)]
        exact e59
abbrev S0 : SC := (0, fun _ => 0, fun _ => 0)
theorem S0_ok : sc_ok S0 0 := ⟨by omega, Nat.le_refl _, Nat.zero_le _, fun k hk => absurd hk (Nat.not_lt_zero k)⟩
theorem k_readFrom (hb : bOk b) (R : cl_bf h b) : cK (f_X8_readFrom h) (sScr b 500 S0 0 (tkA b 0)) (fun x h' => cl_st h' x ∧ cl_bf h' b ∧ h'.1 (.inl 1) 8 6 = iI 0 ∧ h'.1 (.inl 1) 8 7 = iI (-1)) := by
  have w2 : Wr [(.inl 1, 11)] h (am_u (am_u (am_u h (.inl 1) 11 4 (iI 0)) (.inl 1) 11 5 (iI 0)) (.inl 1) 11 6 (iI 0)) := (Wr.u (by simp)).tr ((Wr.u (by simp)).tr (Wr.u (by simp)))
  have SS : cl_ss (am_u (am_u (am_u h (.inl 1) 11 4 (iI 0)) (.inl 1) 11 5 (iI 0)) (.inl 1) 11 6 (iI 0)) S0 0 := ⟨⟨by rw [au_s, if_neg (by omega), au_s, if_neg (by omega), au_s, if_pos rfl]; rfl, fun i hi => absurd hi (Nat.not_lt_zero i)⟩, by rw [au_s, if_neg (by omega), au_s, if_pos rfl]; rfl, by rw [au_s, if_pos rfl]; rfl, fun j hj => absurd hj (Nat.not_lt_zero j)⟩
  obtain ⟨h3, e3, t3⟩ := k_begin hb (R.wr w2 (by simp) (by simp))
  have := k_readScr hb 500 (by omega) (tkA_ok (Nat.zero_le _)).1 S0_ok t3 (SS.t8 (wr_X10_begin e3))
  unfold f_X8_readFrom
  rw [am_lt, am_lt, am_lt, e3, Option.bind_some]
  exact this
end CSC
