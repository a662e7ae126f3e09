/-! scripts read, the reference's -/
def mo_st (h : am_H) (S : SC) : Prop := h.1 (.inl 0) 0 31 = iI S.1 ∧ ∀ i, i < S.1 → h.1 (.inl 0) 13 i = iI (S.2.1 i) ∧ (S.2.1 i ≠ 1 → S.2.1 i ≠ 7 → h.1 (.inl 0) 14 i = iI (S.2.2 i))
def mo_ss (h : am_H) (S : SC) (c : Nat) : Prop := mo_st h S ∧ h.1 (.inl 0) 0 32 = iI c ∧ h.1 (.inl 0) 0 33 = iI (scD S)
/-- what reading a script may change -/
def TV (h h' : am_H) : Prop := (∀ j, j < 4 ∨ (9 < j ∧ (j < 31 ∨ 33 < j)) → h'.1 (.inl 0) 0 j = h.1 (.inl 0) 0 j) ∧ Wr [(.inl 0, 0), (.inl 0, 13), (.inl 0, 14)] h h'
theorem TV.rf {h : am_H} : TV h h := ⟨fun _ _ => rfl, Wr.rf⟩
theorem TV.tr {h h1 h2 : am_H} (a : TV h h1) (c : TV h1 h2) : TV h h2 := ⟨fun j hj => (c.1 j hj).trans (a.1 j hj), a.2.tr c.2⟩
theorem TF.v {h h' : am_H} (a : TF h h') : TV h h' := ⟨fun j hj => a.1 j (by omega), a.2.mono (by simp)⟩
theorem TV.u0 {h : am_H} {i : Nat} {x : Int32} (hi : 31 ≤ i ∧ i ≤ 33) : TV h (am_u h (.inl 0) 0 i x) := ⟨fun j hj => by rw [au_s, if_neg (by omega)], Wr.u (by simp)⟩
theorem TV.u13 {h : am_H} {o i : Nat} {x : Int32} (ho : o = 13 ∨ o = 14) : TV h (am_u h (.inl 0) o i x) := ⟨fun j hj => by rw [am_u_row (by simp; omega)], Wr.u (by simp; omega)⟩
section MSC
variable {h : am_H} {b : bfT} {T : Tk} {S : SC} {c : Nat}
theorem mo_ss.tf {h' : am_H} (f : TF h h') (R : mo_ss h S c) : mo_ss h' S c := by
  unfold mo_ss mo_st at *
  rw [f.1 31 (by omega), f.1 32 (by omega), f.1 33 (by omega), f.2.1 _ _ (show ((.inl 0 : am_G), 13) ∉ [((.inl 0 : am_G), 0)] by simp), f.2.1 _ _ (show ((.inl 0 : am_G), 14) ∉ [((.inl 0 : am_G), 0)] by simp)]
  exact R
theorem mo_tk.v {h' : am_H} (f : ∀ j, 3 ≤ j → j ≤ 9 → h'.1 (.inl 0) 0 j = h.1 (.inl 0) 0 j) (f1 : h'.1 (.inl 0) 1 = h.1 (.inl 0) 1) (fl : h'.2.1 (.inl 0) 0 = h.2.1 (.inl 0) 0) (R : mo_tk h b T) : mo_tk h' b T := by
  unfold mo_tk mo_t0 mo_b at *
  rw [f 3 (by omega) (by omega), f 4 (by omega) (by omega), f 5 (by omega) (by omega), f 6 (by omega) (by omega), f 7 (by omega) (by omega), f 8 (by omega) (by omega), f 9 (by omega) (by omega), f1, fl]
  exact R
theorem mo_tk.u0 {i : Nat} {x : Int32} (hi : 31 ≤ i) (R : mo_tk h b T) : mo_tk (am_u h (.inl 0) 0 i x) b T := R.v (fun j _ _ => by rw [au_s, if_neg (by omega)]) (am_u_row (by simp)) rfl
theorem mo_tk.u13 {o i : Nat} {x : Int32} (ho : o = 13 ∨ o = 14) (R : mo_tk h b T) : mo_tk (am_u h (.inl 0) o i x) b T := R.v (fun j _ _ => by rw [am_u_row (by simp; omega)]) (am_u_row (by simp; omega)) rfl
theorem mo_er.u0 {e : Int × Int} {i : Nat} {x : Int32} (hi : 31 ≤ i) (E : mo_er h e) : mo_er (am_u h (.inl 0) 0 i x) e := ⟨by rw [au_s, if_neg (by omega)]; exact E.1, by rw [au_s, if_neg (by omega)]; exact E.2.1, E.2.2⟩
theorem mo_er.u13 {e : Int × Int} {o i : Nat} {x : Int32} (ho : o = 13 ∨ o = 14) (E : mo_er h e) : mo_er (am_u h (.inl 0) o i x) e := ⟨by rw [am_u_row (by simp; omega)]; exact E.1, by rw [am_u_row (by simp; omega)]; exact E.2.1, E.2.2⟩
theorem m_commandHere (hT : tk_ok b T) (R : mo_tk h b T) : f_X12_commandHere h = some (iI (cmdT b T)) := by
  have e0 : f_X12_isWord (5846402757 : Int64) h = _ := m_isWord hT R (t := 9) (by omega)
  have e1 : f_X12_isWord (1420 : Int64) h = _ := m_isWord hT R (t := 10) (by omega)
  have e2 : f_X12_isWord (431556 : Int64) h = _ := m_isWord hT R (t := 11) (by omega)
  have e3 : f_X12_isWord (553002600 : Int64) h = _ := m_isWord hT R (t := 12) (by omega)
  have e4 : f_X12_isWord (20671185070 : Int64) h = _ := m_isWord hT R (t := 13) (by omega)
  have e5 : f_X12_isWord (437853486 : Int64) h = _ := m_isWord hT R (t := 6) (by omega)
  have e6 : f_X12_isWord (609752116 : Int64) h = _ := m_isWord hT R (t := 14) (by omega)
  have st : ∀ {t : Nat} {w : Int64} {X Y : Option Int32}, f_X12_isWord w h = some (iI (bI (isW b T t = true))) → ((f_X12_isWord w h).bind (fun a => if a = 0 then X else Y)) = if isW b T t = true then Y else X := fun {t w X Y} e => by
    rw [e, Option.bind_some]
    by_cases d : isW b T t = true
    · rw [if_pos d, if_neg (by rw [show bI (isW b T t = true) = 1 from if_pos d]; decide)]
    · rw [if_neg d, if_pos (by rw [show bI (isW b T t = true) = 0 from if_neg d]; decide)]
  unfold f_X12_commandHere cmdT
  rw [st e0]
  split
  · rfl
  · rw [st e1]
    split
    · rfl
    · rw [st e2]
      split
      · rfl
      · rw [st e3]
        split
        · rfl
        · rw [st e4]
          split
          · rfl
          · rw [st e5]
            split
            · rfl
            · rw [st e6]
              split <;> rfl
theorem er_cmd48 {e : Int × Int} (E : mo_er h e) {x : Int32} : f_X12_command_48 x h = some h := by
  unfold f_X12_command_48
  rw [er_good E, Option.bind_some, if_pos (by decide)]
theorem er_cmd135 {e : Int × Int} (E : mo_er h e) {x : Int32} : f_X12_command_135 x h = some h := by
  unfold f_X12_command_135
  rw [er_good E, Option.bind_some, if_pos (by decide)]
/-- a command without its last sign, but for a repeat's -/
def sComM (b : bfT) (S : SC) (c : Nat) (T : Tk) : Rs (SC × Nat × Tk) :=
  if cmdT b T = -1 then .inl (1, (T.2.1 : Int)) else if cmdT b T = 6 ∧ 2 ≤ scD S then .inl (3, (T.2.1 : Int)) else if 30 ≤ c then .inl (5, (T.2.1 : Int)) else
  if cmdT b T = 6 then (sNum b (tkA b T.2.2) 1 20).bd (fun x => (sSign b x.2 40).bd (fun T' => .inr (scP S 6 x.1, c + 1, T')))
  else if cmdT b T = 1 then .inr (scP S 1 0, c + 1, tkA b T.2.2)
  else (sNum b (tkA b T.2.2) 0 999).bd (fun x => .inr (scP S (cmdT b T) x.1, c + 1, x.2))
theorem sComM_e {b : bfT} {S : SC} {c : Nat} {T : Tk} : sCom b S c T = (sComM b S c T).bd (fun x => if cmdT b T = 6 then .inr x else (sSign b x.2.2 59).bd (fun T' => .inr (x.1, x.2.1, T'))) := by
  unfold sCom sComM
  by_cases c1 : cmdT b T = -1
  · rw [if_pos c1, if_pos c1]; rfl
  · rw [if_neg c1, if_neg c1]
    by_cases c2 : cmdT b T = 6 ∧ 2 ≤ scD S
    · rw [if_pos c2, if_pos c2]; rfl
    · rw [if_neg c2, if_neg c2]
      by_cases c3 : 30 ≤ c
      · rw [if_pos c3, if_pos c3]; rfl
      · rw [if_neg c3, if_neg c3]
        by_cases c6 : cmdT b T = 6
        · rw [if_pos c6, if_pos c6, Rs.bd_bd]
          congr 1
          funext x
          rw [Rs.bd_bd]
          congr 1
          funext T'
          exact (if_pos c6).symm
        · rw [if_neg c6, if_neg c6]
          by_cases c1 : cmdT b T = 1
          · rw [if_pos c1, if_pos c1]
            exact (if_neg c6).symm
          · rw [if_neg c1, if_neg c1, Rs.bd_bd]
            congr 1
            funext x
            exact (if_neg c6).symm
theorem sComM_ok {b : bfT} {S : SC} {c : Nat} {T : Tk} {x : SC × Nat × Tk} (hT : tk_ok b T) (e : sComM b S c T = .inr x) : tk_ok b x.2.2 ∧ (cmdT b T = 6 → scD x.1 = scD S + 1) ∧ (cmdT b T ≠ 6 → scD x.1 = scD S) ∧ scD S ≤ 3 + scD S := by
  have hA := adv_ok hT
  have hq := cmdT_b b T
  unfold sComM at e
  split at e
  · cases e
  · split at e
    · cases e
    · split at e
      · cases e
      · split at e
        next c6 =>
          obtain ⟨x1, e1, e⟩ := Rs.bd_r e
          obtain ⟨T2, e2, e⟩ := Rs.bd_r e
          cases e
          have q1 := sNum_ok hA.1 e1
          have q2 := sSign_ok q1.1 e2
          exact ⟨q2.1, fun _ => scP_D6, fun z => absurd c6 z, by omega⟩
        next c6 =>
          split at e
          · cases e
            exact ⟨hA.1, fun z => absurd z c6, fun _ => scP_Do (by omega) (by omega), by omega⟩
          · obtain ⟨x1, e1, e⟩ := Rs.bd_r e
            cases e
            have q1 := sNum_ok hA.1 e1
            exact ⟨q1.1, fun z => absurd z c6, fun _ => scP_Do c6 (by omega), by omega⟩
abbrev MQ2 (b : bfT) (x : SC × Nat × Tk) (h' : am_H) : Prop := mo_tk h' b x.2.2 ∧ mo_ss h' x.1 x.2.1
/-- what stands when the step is written but not counted -/
def mo_sw (h : am_H) (S : SC) (q n : Int) : Prop := h.1 (.inl 0) 0 31 = iI S.1 ∧ ∀ i, i < S.1 + 1 → h.1 (.inl 0) 13 i = iI ((scP S q n).2.1 i) ∧ ((scP S q n).2.1 i ≠ 1 → (scP S q n).2.1 i ≠ 7 → h.1 (.inl 0) 14 i = iI ((scP S q n).2.2 i))
theorem m_cmd135 {q n : Int} (h60 : S.1 < 60) (h7 : q ≠ 7) (hq : -1 ≤ q ∧ q ≤ 6) (hd : scD S ≤ 2) (R : mo_tk h b T) (W : mo_sw h S q n) (x32 : h.1 (.inl 0) 0 32 = iI ((c + 1 : Nat) : Int)) (x33 : h.1 (.inl 0) 0 33 = iI (scD S)) : ∃ h', f_X12_command_135 (iI q) h = some h' ∧ MQ2 b (scP S q n, c + 1, T) h' ∧ TV h h' := by
  unfold f_X12_command_135
  rw [m_good R, Option.bind_some, if_neg (by decide), am_lt, W.1, iI_a]
  have key : ∀ y : Int, y = (if q = 6 then 1 else 0) → MQ2 b (scP S q n, c + 1, T) (am_u (am_u h (.inl 0) 0 31 (iI ((S.1 : Int) + 1))) (.inl 0) 0 33 ((am_u h (.inl 0) 0 31 (iI ((S.1 : Int) + 1))).1 (.inl 0) 0 33 + iI y)) := fun y hy => by
    refine ⟨(R.u0 (by omega)).u0 (by omega), ⟨?_, fun i hi => ?_⟩, ?_, ?_⟩
    · rw [au_s, if_neg (by omega), au_s, if_pos rfl]; rfl
    · rw [am_u_row (by simp), am_u_row (by simp), am_u_row (by simp), am_u_row (by simp)]
      exact W.2 i hi
    · rw [au_s, if_neg (by omega), au_s, if_neg (by omega)]; exact x32
    · rw [au_s, if_pos rfl, au_s, if_neg (by omega), x33, iI_a, hy]
      show _ = iI (scD (scP S q n))
      by_cases c6 : q = 6
      · subst c6; rw [if_pos rfl, scP_D6]; rfl
      · rw [if_neg c6, scP_Do c6 h7, Int.add_zero]
  have tv : ∀ y : Int32, TV h (am_u (am_u h (.inl 0) 0 31 (iI ((S.1 : Int) + 1))) (.inl 0) 0 33 y) := fun y => (TV.u0 (by omega)).tr (TV.u0 (by omega))
  by_cases c6 : q = 6
  · rw [if_pos (by rw [c6]), m_truth1, Option.bind_some, am_lt]
    exact ⟨_, rfl, key 1 (by rw [if_pos c6]), tv _⟩
  · rw [if_neg (by rw [xI_eq (by omega) (by omega) (by omega) (by omega)]; exact c6), m_truth0, Option.bind_some, am_lt]
    exact ⟨_, rfl, key 0 (by rw [if_neg c6]), tv _⟩
theorem m_command (hb : bOk b) (hT : tk_ok b T) (hS : sc_ok S c) (R : mo_tk h b T) (SS : mo_ss h S c) : mK (f_X12_command h) (sComM b S c T) (TV h) (MQ2 b) := by
  have hA := adv_ok hT
  have hq := cmdT_b b T
  have ec := m_commandHere hT R
  obtain ⟨hc30, hsz, hd2, -⟩ := hS
  obtain ⟨St, r32, r33⟩ := SS
  have z1 : ¬ (iI 1 : Int32) = 0 := by decide
  -- an error at the beginning
  have er15 : ∀ {h1 : am_H} {e : Int × Int}, mo_er h1 e → (∀ j, j = 32 ∨ j = 33 → h1.1 (.inl 0) 0 j = h.1 (.inl 0) 0 j) → ∀ q : Int, -1 ≤ q ∧ q ≤ 6 → f_X12_command_15 (iI q) h1 = some h1 := fun {h1 e} E kj q hq' => by
    have e34 : f_X12_command_34 (iI q) h1 = some h1 := by
      unfold f_X12_command_34
      rw [kj 32 (by omega), r32]
      by_cases g : c = 30
      · rw [if_pos (by rw [g]; rfl), er_wrong E, Option.bind_some, er_cmd48 E]
      · rw [if_neg (by rw [xI_eq (by omega) (by omega) (by omega) (by omega)]; omega), er_cmd48 E]
    unfold f_X12_command_15
    rw [kj 33 (by omega), r33]
    by_cases g : q = 6
    · rw [if_pos (by rw [g])]
      by_cases g2 : scD S = 2
      · rw [if_pos (by rw [g2]; rfl), er_wrong E, Option.bind_some, e34]
      · rw [if_neg (by rw [xI_eq (by omega) (by omega) (by omega) (by omega)]; omega), e34]
    · rw [if_neg (by rw [xI_eq (by omega) (by omega) (by omega) (by omega)]; exact g), e34]
  have er34 : ∀ {h1 : am_H} {e : Int × Int}, mo_er h1 e → (∀ j, j = 32 ∨ j = 33 → h1.1 (.inl 0) 0 j = h.1 (.inl 0) 0 j) → ∀ q : Int, f_X12_command_34 (iI q) h1 = some h1 := fun {h1 e} E kj q => by
    unfold f_X12_command_34
    rw [kj 32 (by omega), r32]
    by_cases g : c = 30
    · rw [if_pos (by rw [g]; rfl), er_wrong E, Option.bind_some, er_cmd48 E]
    · rw [if_neg (by rw [xI_eq (by omega) (by omega) (by omega) (by omega)]; omega), er_cmd48 E]
  -- behind the tests
  have e48 : ¬ cmdT b T = -1 → ¬ 30 ≤ c → mK (f_X12_command_48 (iI (cmdT b T)) h) (if cmdT b T = 6 then (sNum b (tkA b T.2.2) 1 20).bd (fun x => (sSign b x.2 40).bd (fun T' => .inr (scP S 6 x.1, c + 1, T')))
    else if cmdT b T = 1 then .inr (scP S 1 0, c + 1, tkA b T.2.2)
    else (sNum b (tkA b T.2.2) 0 999).bd (fun x => .inr (scP S (cmdT b T) x.1, c + 1, x.2))) (TV h) (MQ2 b) := fun q1 c30 => by
    unfold f_X12_command_48
    rw [m_good R, Option.bind_some, if_neg z1, am_lt, r32, iI_a]
    have R0 := R.u0 (i := 32) (x := iI ((c : Int) + 1)) (by omega)
    have v0 : TV h (am_u h (.inl 0) 0 32 (iI ((c : Int) + 1))) := TV.u0 (by omega)
    have SS0 : mo_ss (am_u h (.inl 0) 0 32 (iI ((c : Int) + 1))) S (c + 1) := ⟨⟨by rw [au_s, if_neg (by omega)]; exact St.1, fun i hi => by rw [am_u_row (by simp), am_u_row (by simp)]; exact St.2 i hi⟩, by rw [au_s, if_pos rfl]; rfl, by rw [au_s, if_neg (by omega)]; exact r33⟩
    generalize am_u h (.inl 0) 0 32 (iI ((c : Int) + 1)) = h0 at *
    obtain ⟨h1, e1, t1, k1⟩ := m_next hb hT R0
    have SS1 := SS0.tf k1
    have v1 := v0.tr k1.v
    rw [e1, Option.bind_some, SS1.1.1, if_pos (by rw [xI_ib (by omega) (by omega) (by omega)]; trivial), xI_cl (by omega) (by omega), Int.toNat_natCast, am_lt]
    have t2 := t1.u13 (o := 13) (i := S.1) (x := iI (cmdT b T)) (by omega)
    have v2 := v1.tr (TV.u13 (h := h1) (o := 13) (i := S.1) (x := iI (cmdT b T)) (by omega))
    have y31 : (am_u h1 (.inl 0) 13 S.1 (iI (cmdT b T))).1 (.inl 0) 0 31 = iI S.1 := by rw [am_u_row (by simp)]; exact SS1.1.1
    have y32 : (am_u h1 (.inl 0) 13 S.1 (iI (cmdT b T))).1 (.inl 0) 0 32 = iI ((c + 1 : Nat) : Int) := by rw [am_u_row (by simp)]; exact SS1.2.1
    have y33 : (am_u h1 (.inl 0) 13 S.1 (iI (cmdT b T))).1 (.inl 0) 0 33 = iI (scD S) := by rw [am_u_row (by simp)]; exact SS1.2.2
    have y13 : ∀ i, (am_u h1 (.inl 0) 13 S.1 (iI (cmdT b T))).1 (.inl 0) 13 i = if i = S.1 then iI (cmdT b T) else h1.1 (.inl 0) 13 i := fun i => au_s
    have y14 : ∀ i, (am_u h1 (.inl 0) 13 S.1 (iI (cmdT b T))).1 (.inl 0) 14 i = h1.1 (.inl 0) 14 i := fun i => by rw [am_u_row (by simp)]
    generalize am_u h1 (.inl 0) 13 S.1 (iI (cmdT b T)) = h2 at *
    -- the number written
    have sw : ∀ (n : Int) (hh : am_H), TF h2 hh → mo_sw (am_u hh (.inl 0) 14 S.1 (iI n)) S (cmdT b T) n := fun n hh f => by
      refine ⟨by rw [am_u_row (by simp), f.1 31 (by omega)]; exact y31, fun i hi => ?_⟩
      rw [am_u_row (by simp), f.2.1 _ _ (show ((.inl 0 : am_G), 13) ∉ [((.inl 0 : am_G), 0)] by simp), y13, au_s, f.2.1 _ _ (show ((.inl 0 : am_G), 14) ∉ [((.inl 0 : am_G), 0)] by simp), y14]
      by_cases d : i = S.1
      · subst d
        rw [if_pos rfl, if_pos rfl, scP_s.1, scP_s.2]
        exact ⟨rfl, fun _ _ => rfl⟩
      · rw [if_neg d, if_neg d, (scP_lt (by omega)).1, (scP_lt (by omega)).2]
        exact SS1.1.2 i (by omega)
    have erN : ∀ (y : Int32) (h' : am_H) (e : Int × Int), mo_er h' e → TF h2 h' → ∃ h'', (if iI (cmdT b T) = iI 6 then (f_X12_mustSign (iI 40) (am_u h' (.inl 0) 14 S.1 y)).bind (fun a4 => f_X12_command_135 (iI (cmdT b T)) a4) else f_X12_command_135 (iI (cmdT b T)) (am_u h' (.inl 0) 14 S.1 y)) = some h'' ∧ mo_er h'' e ∧ TV h h'' := fun y h' e E f => by
      have E1 := E.u13 (o := 14) (i := S.1) (x := y) (by omega)
      refine ⟨_, ?_, E1, v2.tr (f.v.tr (TV.u13 (by omega)))⟩
      rw [er_mustSign E1, Option.bind_some, er_cmd135 E1]
      split <;> rfl
    have ib1 : ib (iI S.1) 60 := by rw [xI_ib (by omega) (by omega) (by omega)]; trivial
    by_cases c6 : cmdT b T = 6
    · rw [if_pos c6, if_pos (by rw [c6])]
      refine mKn.bind (m_number hb hA.1 t2 (by omega) (by omega)) (fun y h' e E f => ?_) (fun x3 y3 h3 s3 q3 f3 => ?_)
      · dsimp only
        rw [if_pos ib1, am_lt]
        exact erN y h' e E f
      obtain ⟨rfl, t3⟩ := q3
      have o3 := sNum_ok hA.1 s3
      have W := sw x3.1 h3 f3
      have t3' := t3.u13 (o := 14) (i := S.1) (x := iI x3.1) (by omega)
      have v3 := v2.tr (f3.v.tr (TV.u13 (h := h3) (o := 14) (i := S.1) (x := iI x3.1) (by omega)))
      have u32 : (am_u h3 (.inl 0) 14 S.1 (iI x3.1)).1 (.inl 0) 0 32 = iI ((c + 1 : Nat) : Int) := by rw [am_u_row (by simp), f3.1 32 (by omega)]; exact y32
      have u33 : (am_u h3 (.inl 0) 14 S.1 (iI x3.1)).1 (.inl 0) 0 33 = iI (scD S) := by rw [am_u_row (by simp), f3.1 33 (by omega)]; exact y33
      dsimp only
      rw [if_pos ib1, am_lt, if_pos (by rw [c6])]
      generalize am_u h3 (.inl 0) 14 S.1 (iI x3.1) = h4 at *
      refine mK.bind (m_mustSign hb o3.1 t3' (by omega)) (fun h' e E f => ⟨h', er_cmd135 E, E, v3.tr f.v⟩) (fun T5 h5 s5 t5 f5 => ?_)
      rw [c6] at W ⊢
      have W5 : mo_sw h5 S 6 x3.1 := by
        unfold mo_sw at *
        rw [f5.1 31 (by omega), f5.2.1 _ _ (show ((.inl 0 : am_G), 13) ∉ [((.inl 0 : am_G), 0)] by simp), f5.2.1 _ _ (show ((.inl 0 : am_G), 14) ∉ [((.inl 0 : am_G), 0)] by simp)]
        exact W
      obtain ⟨h6, e6, q6, v6⟩ := m_cmd135 (S := S) (q := 6) (n := x3.1) (c := c) (by omega) (by omega) (by omega) hd2 t5 W5 (by rw [f5.1 32 (by omega)]; exact u32) (by rw [f5.1 33 (by omega)]; exact u33)
      exact ⟨h6, e6, q6, v3.tr (f5.v.tr v6)⟩
    · rw [if_neg c6, if_neg (by rw [xI_eq (by omega) (by omega) (by omega) (by omega)]; exact c6)]
      by_cases c1 : cmdT b T = 1
      · rw [if_pos c1, if_pos (by rw [c1]), if_neg (by rw [xI_eq (by omega) (by omega) (by omega) (by omega)]; exact c6), c1]
        have W : mo_sw h2 S 1 0 := by
          refine ⟨y31, fun i hi => ?_⟩
          rw [y13, y14]
          by_cases d : i = S.1
          · subst d
            rw [if_pos rfl, scP_s.1, c1]
            exact ⟨rfl, fun z => absurd rfl z⟩
          · rw [if_neg d, (scP_lt (by omega)).1, (scP_lt (by omega)).2]
            exact SS1.1.2 i (by omega)
        obtain ⟨h6, e6, q6, v6⟩ := m_cmd135 (S := S) (q := 1) (n := 0) (c := c) (by omega) (by omega) (by omega) hd2 t2 W y32 y33
        exact ⟨h6, e6, q6, v2.tr v6⟩
      · rw [if_neg c1, if_neg (by rw [xI_eq (by omega) (by omega) (by omega) (by omega)]; exact c1)]
        refine mKn.bind (m_number hb hA.1 t2 (by omega) (by omega)) (fun y h' e E f => ?_) (fun x3 y3 h3 s3 q3 f3 => ?_)
        · dsimp only
          rw [if_pos ib1, am_lt]
          exact erN y h' e E f
        obtain ⟨rfl, t3⟩ := q3
        have W := sw x3.1 h3 f3
        have t3' := t3.u13 (o := 14) (i := S.1) (x := iI x3.1) (by omega)
        have v3 := v2.tr (f3.v.tr (TV.u13 (h := h3) (o := 14) (i := S.1) (x := iI x3.1) (by omega)))
        dsimp only
        rw [if_pos ib1, am_lt, if_neg (by rw [xI_eq (by omega) (by omega) (by omega) (by omega)]; exact c6)]
        obtain ⟨h6, e6, q6, v6⟩ := m_cmd135 (S := S) (q := cmdT b T) (n := x3.1) (c := c) (by omega) (by omega) hq hd2 t3' W (by rw [am_u_row (by simp), f3.1 32 (by omega)]; exact y32) (by rw [am_u_row (by simp), f3.1 33 (by omega)]; exact y33)
        exact ⟨h6, e6, q6, v3.tr v6⟩
  unfold f_X12_command sComM
  rw [ec, Option.bind_some]
  by_cases c1 : cmdT b T = -1
  · obtain ⟨h1, w1, t1, k1⟩ := m_wrong hT R (c := 1) (by omega)
    rw [show (if T.1 = 4 then (1 : Int) else 1) = 1 by split <;> rfl] at t1
    rw [if_pos c1, if_pos (by rw [c1]), w1, Option.bind_some, er15 t1 (fun j hj => k1.1 j (by omega)) _ hq]
    exact ⟨h1, rfl, t1, k1.v⟩
  · have hT1 := cmdT_1 c1
    rw [if_neg c1, if_neg (by rw [xI_eq (by omega) (by omega) (by omega) (by omega)]; exact c1)]
    have e34 : ¬ (cmdT b T = 6 ∧ 2 ≤ scD S) → mK (f_X12_command_34 (iI (cmdT b T)) h) (if 30 ≤ c then .inl (5, (T.2.1 : Int)) else if cmdT b T = 6 then (sNum b (tkA b T.2.2) 1 20).bd (fun x => (sSign b x.2 40).bd (fun T' => .inr (scP S 6 x.1, c + 1, T')))
    else if cmdT b T = 1 then .inr (scP S 1 0, c + 1, tkA b T.2.2)
    else (sNum b (tkA b T.2.2) 0 999).bd (fun x => .inr (scP S (cmdT b T) x.1, c + 1, x.2))) (TV h) (MQ2 b) := fun _ => by
      unfold f_X12_command_34
      rw [r32]
      by_cases c30 : 30 ≤ c
      · obtain ⟨h1, w1, t1, k1⟩ := m_wrong hT R (c := 5) (by omega)
        rw [if_neg (by omega)] at t1
        rw [if_pos c30, if_pos (show iI (c : Int) = iI 30 by congr 1; omega), w1, Option.bind_some, er_cmd48 t1]
        exact ⟨h1, rfl, t1, k1.v⟩
      · rw [if_neg c30, if_neg (by rw [xI_eq (by omega) (by omega) (by omega) (by omega)]; omega)]
        exact e48 c1 c30
    unfold f_X12_command_15
    rw [r33]
    by_cases c6 : cmdT b T = 6
    · rw [if_pos (show iI (cmdT b T) = iI 6 by rw [c6])]
      by_cases cd : 2 ≤ scD S
      · obtain ⟨h1, w1, t1, k1⟩ := m_wrong hT R (c := 3) (by omega)
        rw [if_neg (by omega)] at t1
        rw [if_pos (show iI (scD S : Int) = iI 2 by congr 1; omega), if_pos (show cmdT b T = 6 ∧ 2 ≤ scD S from ⟨c6, cd⟩), w1, Option.bind_some, er34 t1 (fun j hj => k1.1 j (by omega))]
        exact ⟨h1, rfl, t1, k1.v⟩
      · rw [if_neg (show ¬ iI (scD S : Int) = iI 2 by rw [xI_eq (by omega) (by omega) (by omega) (by omega)]; omega), if_neg (show ¬ (cmdT b T = 6 ∧ 2 ≤ scD S) from fun z => cd z.2)]
        exact e34 (fun z => cd z.2)
    · rw [if_neg (show ¬ iI (cmdT b T) = iI 6 by rw [xI_eq (by omega) (by omega) (by omega) (by omega)]; exact c6), if_neg (show ¬ (cmdT b T = 6 ∧ 2 ≤ scD S) from fun z => c6 z.1)]
      exact e34 (fun z => c6 z.1)
end MSC
