/-! a text read, the reference's -/
section MRT
variable {h : am_H} {b : bfT} {T : Tk} {v : pv_T}
def TU (h h' : am_H) : Prop := (∀ j, j < 4 ∨ (9 < j ∧ j ≠ 23) → h'.1 (.inl 0) 0 j = h.1 (.inl 0) 0 j) ∧ Wr [(.inl 0, 0), (.inl 0, 2), (.inl 0, 7)] h h'
theorem TU.rf {h : am_H} : TU h h := ⟨fun _ _ => rfl, Wr.rf⟩
theorem TU.tr {h h1 h2 : am_H} (a : TU h h1) (c : TU h1 h2) : TU h h2 := ⟨fun j hj => (c.1 j hj).trans (a.1 j hj), a.2.tr c.2⟩
theorem TS.u {h h' : am_H} (a : TS h h') : TU h h' := ⟨fun j hj => a.1 j (by omega), a.2⟩
theorem TU.u23 {h : am_H} {x : Int32} : TU h (am_u h (.inl 0) 0 23 x) := ⟨fun j hj => by rw [au_s, if_neg (by omega)], Wr.u (by simp)⟩
def mo_fg (h : am_H) (g : G3) : Prop := bt (h.1 (.inl 0) 0 23) 0 = g.1 ∧ bt (h.1 (.inl 0) 0 23) 1 = g.2.1 ∧ bt (h.1 (.inl 0) 0 23) 2 = g.2.2
theorem mo_fg.s {h' : am_H} {g : G3} (f : TS h h') (F : mo_fg h g) : mo_fg h' g := by
  unfold mo_fg at *
  rw [f.1 23 (by omega)]; exact F
theorem mo_rw.u5 {f f' : Nat → Int32} {x : Int} (e : ∀ i, i ≠ 5 → f' i = f i) (ex : f' 5 = iI x) (R : mo_rw f v) : mo_rw f' (pu v 0 2 x) := by
  obtain ⟨⟨r0, r1, r2, r3, r4, r5, r6, r7, r8⟩, ra, rl, rw', rk, rs⟩ := R
  refine ⟨⟨(e 0 (by omega)).trans r0, (e 1 (by omega)).trans r1, (e 2 (by omega)).trans r2, (e 3 (by omega)).trans r3, (e 4 (by omega)).trans r4, ex, (e 6 (by omega)).trans r6, (e 7 (by omega)).trans r7, (e 8 (by omega)).trans r8⟩, fun i hi c hc => ?_, fun i hi c hc => ?_, fun i hi => ?_, fun i hi c hc => ?_, fun i hi c hc => ?_⟩
  · rw [pu_o (by omega), e _ (by omega)]; exact ra i hi c hc
  · rw [pu_o (by omega), e _ (by omega)]; exact rl i hi c hc
  · rw [pu_o (by omega), e _ (by omega)]; exact rw' i hi
  · rw [pu_o (by omega), e _ (by omega)]; exact rk i hi c hc
  · rw [pu_o (by omega), e _ (by omega)]; exact rs i hi c hc
theorem mo_tk.u23 {x : Int32} (R : mo_tk h b T) : mo_tk (am_u h (.inl 0) 0 23 x) b T := by
  have k : ∀ j, j ≠ 23 → (am_u h (.inl 0) 0 23 x).1 (.inl 0) 0 j = h.1 (.inl 0) 0 j := fun j hj => by rw [au_s, if_neg hj]
  unfold mo_tk mo_t0 mo_b at *
  rw [k 3 (by omega), k 4 (by omega), k 5 (by omega), k 6 (by omega), k 7 (by omega), k 8 (by omega), k 9 (by omega), am_u_row (show ((.inl 0 : am_G), 1) ≠ (.inl 0, 0) by simp)]
  exact R
theorem er_onc16 {e : Int × Int} (E : mo_er h e) {x1 x2 x3 x4 : Int32} : ∃ h', f_X12_readsOnce_16 x1 x2 x3 x4 h = some h' ∧ mo_er h' e ∧ TU h h' := by
  have E1 : mo_er (am_u h (.inl 0) 0 23 ((h.1 (.inl 0) 0 23) ||| ((iI (1)) <<< (x2 &&& 31)))) e := ⟨by rw [au_s, if_neg (by omega)]; exact E.1, by rw [au_s, if_neg (by omega)]; exact E.2.1, E.2.2⟩
  refine ⟨am_u h (.inl 0) 0 23 ((h.1 (.inl 0) 0 23) ||| ((iI (1)) <<< (x2 &&& 31))), ?_, E1, TU.u23⟩
  unfold f_X12_readsOnce_16
  rw [am_lt, er_good E1, Option.bind_some, if_pos (by decide)]
  unfold f_X12_readsOnce_39
  rw [er_number E1, Option.bind_some]
  dsimp only
  rw [er_good E1, Option.bind_some, if_pos (by decide)]
theorem m_once {g g' : G3} {k cell cc : Nat} {told : Bool} {lo hi : Int} (hb : bOk b) (hT : tk_ok b T) (h4 : T.1 ≠ 4) (R : mo_ps h b v T) (F : mo_fg h g) (hk : k < 3) (hlo : 0 ≤ lo ∧ lo ≤ 999) (hhi : 0 ≤ hi ∧ hi ≤ 999) (hcc : (cell = 5 ∧ cc = 2) ∨ (cell = 3 ∧ cc = 0) ∨ (cell = 4 ∧ cc = 1)) (ht : bt (h.1 (.inl 0) 0 23) k = told) (hg : ∀ D : Int32, bt D 0 = (g.1 || decide (0 = k)) → bt D 1 = (g.2.1 || decide (1 = k)) → bt D 2 = (g.2.2 || decide (2 = k)) → told = false → bt D 0 = g'.1 ∧ bt D 1 = g'.2.1 ∧ bt D 2 = g'.2.2) : mK (f_X12_readsOnce (iI cell) (iI k) (iI lo) (iI hi) h) (sOnc b v told cc lo hi T) (TU h) (fun x h' => mo_ps h' b x.1 x.2 ∧ mo_fg h' g') := by
  have hA := adv_ok hT
  have eh := m_has (D := h.1 (.inl 0) 0 23) (k := k) (by omega)
  rw [ht] at eh
  unfold sOnc f_X12_readsOnce
  rw [eh, Option.bind_some]
  by_cases c : told = true
  · obtain ⟨h1, e1, t1, k1⟩ := m_wrong hT R.1 (c := 3) (by omega)
    rw [if_neg h4] at t1
    obtain ⟨h2, e2, t2, k2⟩ := er_onc16 t1 (x1 := iI cell) (x2 := iI k) (x3 := iI lo) (x4 := iI hi)
    rw [if_pos c, if_pos c, if_neg (by decide), e1, Option.bind_some, e2]
    exact ⟨h2, rfl, t2, k1.s.u.tr k2⟩
  · rw [if_neg c, if_neg c, if_pos (by decide)]
    have tf : told = false := by simpa using c
    have hD : ∀ i, i < 31 → bt ((h.1 (.inl 0) 0 23) ||| ((iI (1)) <<< ((iI k) &&& 31))) i = (bt (h.1 (.inl 0) 0 23) i || decide (i = k)) := fun i hi => by
      have := or_bt (D := h.1 (.inl 0) 0 23) (r := k) (k := i) (by omega) hi
      rw [iI_nI k] at this
      exact this
    have F1 := hg _ (by rw [hD 0 (by omega), F.1]) (by rw [hD 1 (by omega), F.2.1]) (by rw [hD 2 (by omega), F.2.2]) tf
    have t1 := R.1.u23 (x := (h.1 (.inl 0) 0 23) ||| ((iI (1)) <<< ((iI k) &&& 31)))
    have w1 : Wr [(.inl 0, 0)] h (am_u h (.inl 0) 0 23 ((h.1 (.inl 0) 0 23) ||| ((iI (1)) <<< ((iI k) &&& 31)))) := Wr.u (by simp)
    have u1 : TU h (am_u h (.inl 0) 0 23 ((h.1 (.inl 0) 0 23) ||| ((iI (1)) <<< ((iI k) &&& 31)))) := TU.u23
    have z1 : (am_u h (.inl 0) 0 23 ((h.1 (.inl 0) 0 23) ||| ((iI (1)) <<< ((iI k) &&& 31)))).1 (.inl 0) 0 23 = (h.1 (.inl 0) 0 23) ||| ((iI (1)) <<< ((iI k) &&& 31)) := by rw [au_s, if_pos rfl]
    unfold f_X12_readsOnce_16
    rw [am_lt]
    rw [← z1] at F1
    generalize am_u h (.inl 0) 0 23 ((h.1 (.inl 0) 0 23) ||| ((iI (1)) <<< ((iI k) &&& 31))) = h1 at *
    obtain ⟨h2, e2, t2, k2⟩ := m_next hb hT t1
    have P2 := (R.2.1.tf w1).tf k2.2
    have N2 := (R.2.2.tf w1 (by omega)).tf k2.2 (by omega)
    have F2 := mo_fg.s (h := h1) (g := g') k2.s F1
    rw [m_good t1, Option.bind_some, if_neg (by decide), e2, Option.bind_some]
    unfold f_X12_readsOnce_39
    refine mKn.bind (m_number hb hA.1 t2 hlo hhi) (fun y h' e E f => ⟨h', ?_, E, u1.tr (k2.tr f).s.u⟩) (fun x3 y3 h3 q3 t3 f3 => ?_)
    · dsimp only
      rw [er_good E, Option.bind_some, if_pos (by decide)]
    obtain ⟨rfl, t3⟩ := t3
    have P3 := P2.tf f3.2
    have w4 : Wr [(.inl 0, 2)] h3 (am_u h3 (.inl 0) 2 cell (iI x3.1)) := Wr.u (by simp)
    dsimp only
    rw [m_good t3, Option.bind_some, if_neg (by decide), if_pos (by rw [xI_ib (by omega) (by omega) (by omega)]; trivial), xI_cl (by omega) (by omega), Int.toNat_natCast, am_lt]
    refine ⟨_, rfl, ⟨⟨t3.wr w4 (by simp) (by simp), ?_, (N2.tf f3.2 (by omega)).sm (w4.2.1 _ _ (by simp)) rfl (pu_row (by omega))⟩, (F2.s f3.s).s (TS.w2 w4)⟩, u1.tr ((k2.tr f3).s.tr (TS.w2 w4)).u⟩
    rcases hcc with ⟨rfl, rfl⟩ | ⟨rfl, rfl⟩ | ⟨rfl, rfl⟩
    · exact mo_rw.u5 (fun i hi => by rw [au_s, if_neg hi]) (by rw [au_s, if_pos rfl]) P3
    · exact mo_rw.u0 (j := 0) (Or.inl rfl) (fun i hi => by rw [au_s, if_neg hi]) (by rw [au_s, if_pos rfl]) P3
    · exact mo_rw.u0 (j := 1) (Or.inr rfl) (fun i hi => by rw [au_s, if_neg hi]) (by rw [au_s, if_pos rfl]) P3
abbrev MSq (b : bfT) (x : pv_T × G3 × Tk) (h' : am_H) : Prop := mo_ps h' b x.1 x.2.2 ∧ mo_fg h' x.2.1
theorem m_semi {o : Option am_H} {r : Rs (pv_T × G3 × Tk)} (hb : bOk b) (C : mK o r (TU h) (MSq b)) (hok : ∀ x, r = .inr x → tk_ok b x.2.2) : mK (o.bind (fun a2 => (f_X12_mustSign (iI 59) a2).bind (fun a3 => some a3))) (r.bd (fun x => (sSign b x.2.2 59).bd (fun T' => .inr (x.1, x.2.1, T')))) (TU h) (MSq b) := by
  refine mK.bind C (fun h' e E f => ⟨h', by rw [er_mustSign E, Option.bind_some], E, f⟩) (fun x h' q m f => ?_)
  refine mK.bind (m_mustSign hb (hok x q) m.1.1 (by omega)) (fun h'' e E f2 => ⟨h'', rfl, E, f.tr f2.s.u⟩) (fun T' h'' q2 t2 f2 => ?_)
  exact ⟨h'', rfl, ⟨m.1.tf f2 t2, m.2.s f2.s⟩, f.tr f2.s.u⟩
theorem mK.map {X Y : Type} {o : Option am_H} {r : Rs X} {E E' : am_H → Prop} {Q : X → am_H → Prop} {Q' : Y → am_H → Prop} {f : X → Y} (C : mK o r E Q) (hE : ∀ h', E h' → E' h') (hQ : ∀ x h', Q x h' → E h' → Q' (f x) h') : mK o (r.bd (fun x => .inr (f x))) E' Q' := by
  cases r with
  | inl e => obtain ⟨h', e1, q, g⟩ := C; exact ⟨h', e1, q, hE _ g⟩
  | inr x => obtain ⟨h', e1, q, g⟩ := C; exact ⟨h', e1, hQ _ _ q g, hE _ g⟩
theorem m_statement (hb : bOk b) (hT : tk_ok b T) {g : G3} (hv : pvZ v) (R : mo_ps h b v T) (F : mo_fg h g) : mK (f_X12_statement h) (sStt b v g T) (TU h) (MSq b) := by
  have e0 : f_X12_isWord (1603 : Int64) h = _ := m_isWord hT R.1 (t := 0) (by omega)
  have e1 : f_X12_isWord (460197 : Int64) h = _ := m_isWord hT R.1 (t := 1) (by omega)
  have e2 : f_X12_isWord (763013 : Int64) h = _ := m_isWord hT R.1 (t := 2) (by omega)
  have e3 : f_X12_isWord (219569268328 : Int64) h = _ := m_isWord hT R.1 (t := 3) (by omega)
  have e4 : f_X12_isWord (627876 : Int64) h = _ := m_isWord hT R.1 (t := 4) (by omega)
  have e5 : f_X12_isWord (20186704 : Int64) h = _ := m_isWord hT R.1 (t := 5) (by omega)
  have e6 : f_X12_isWord (437853486 : Int64) h = _ := m_isWord hT R.1 (t := 6) (by omega)
  have z1 : ¬ (iI 1 : Int32) = 0 := by decide
  have z0 : (iI 0 : Int32) = 0 := by decide
  have hok : ∀ x, sStm b v g T = .inr x → tk_ok b x.2.2 := fun x e => (sStm_ok hT hv e).2.1
  unfold sStt
  unfold sStm at hok ⊢
  unfold f_X12_statement
  by_cases c0 : isW b T 0 = true
  · have h4 : T.1 ≠ 4 := by have := isW_1 c0; omega
    rw [if_pos c0] at hok ⊢
    rw [e0, Option.bind_some, if_neg (by rw [show bI (isW b T 0 = true) = 1 from if_pos c0]; exact z1)]
    exact m_semi hb ((m_readsArc hb hT hv h4 R).map (fun _ f => f.u) (fun x h' q f => ⟨q, F.s f⟩)) hok
  · rw [if_neg c0] at hok ⊢
    rw [e0, Option.bind_some, if_pos (by rw [show bI (isW b T 0 = true) = 0 from if_neg c0]; exact z0)]
    by_cases c1 : isW b T 1 = true
    · rw [if_pos c1] at hok ⊢
      rw [e1, Option.bind_some, if_neg (by rw [show bI (isW b T 1 = true) = 1 from if_pos c1]; exact z1)]
      exact m_semi hb ((m_readsName hb hT hv R).map (fun _ f => f.u) (fun x h' q f => ⟨q, F.s f⟩)) hok
    · rw [if_neg c1] at hok ⊢
      rw [e1, Option.bind_some, if_pos (by rw [show bI (isW b T 1 = true) = 0 from if_neg c1]; exact z0)]
      by_cases c2 : isW b T 2 = true
      · rw [if_pos c2] at hok ⊢
        rw [e2, Option.bind_some, if_neg (by rw [show bI (isW b T 2 = true) = 1 from if_pos c2]; exact z1)]
        exact m_semi hb ((m_readsWide hb hT hv R).map (fun _ f => f.u) (fun x h' q f => ⟨q, F.s f⟩)) hok
      · rw [if_neg c2] at hok ⊢
        rw [e2, Option.bind_some, if_pos (by rw [show bI (isW b T 2 = true) = 0 from if_neg c2]; exact z0)]
        by_cases c3 : isW b T 3 = true
        · have h4 : T.1 ≠ 4 := by have := isW_1 c3; omega
          rw [if_pos c3] at hok ⊢
          rw [e3, Option.bind_some, if_neg (by rw [show bI (isW b T 3 = true) = 1 from if_pos c3]; exact z1)]
          exact m_semi hb ((m_readsFlo hb hT hv h4 R).map (fun _ f => f.u) (fun x h' q f => ⟨q, F.s f⟩)) hok
        · rw [if_neg c3] at hok ⊢
          rw [e3, Option.bind_some, if_pos (by rw [show bI (isW b T 3 = true) = 0 from if_neg c3]; exact z0)]
          by_cases c4 : isW b T 4 = true
          · have h4 : T.1 ≠ 4 := by have := isW_1 c4; omega
            rw [if_pos c4] at hok ⊢
            rw [e4, Option.bind_some, if_neg (by rw [show bI (isW b T 4 = true) = 1 from if_pos c4]; exact z1)]
            have M := m_once (g := g) (g' := (true, g.2)) (k := 0) (cell := 5) (cc := 2) (told := g.1) (lo := 0) (hi := 999) hb hT h4 R F (by omega) (by omega) (by omega) (by omega) F.1 (fun D d0 d1 d2 z => ⟨by rw [d0, z]; rfl, by rw [d1]; simp, by rw [d2]; simp⟩)
            exact m_semi hb (M.map (fun _ f => f) (fun x h' q f => q)) hok
          · rw [if_neg c4] at hok ⊢
            rw [e4, Option.bind_some, if_pos (by rw [show bI (isW b T 4 = true) = 0 from if_neg c4]; exact z0)]
            by_cases c5 : isW b T 5 = true
            · have h4 : T.1 ≠ 4 := by have := isW_1 c5; omega
              rw [if_pos c5] at hok ⊢
              rw [e5, Option.bind_some, if_neg (by rw [show bI (isW b T 5 = true) = 1 from if_pos c5]; exact z1)]
              have M := m_once (g := g) (g' := (g.1, true, g.2.2)) (k := 1) (cell := 3) (cc := 0) (told := g.2.1) (lo := 1) (hi := 99) hb hT h4 R F (by omega) (by omega) (by omega) (by omega) F.2.1 (fun D d0 d1 d2 z => ⟨by rw [d0]; simp, by rw [d1, z]; rfl, by rw [d2]; simp⟩)
              exact m_semi hb (M.map (fun _ f => f) (fun x h' q f => q)) hok
            · rw [if_neg c5] at hok ⊢
              rw [e5, Option.bind_some, if_pos (by rw [show bI (isW b T 5 = true) = 0 from if_neg c5]; exact z0)]
              by_cases c6 : isW b T 6 = true
              · have h4 : T.1 ≠ 4 := by have := isW_1 c6; omega
                rw [if_pos c6] at hok ⊢
                rw [e6, Option.bind_some, if_neg (by rw [show bI (isW b T 6 = true) = 1 from if_pos c6]; exact z1)]
                have M := m_once (g := g) (g' := (g.1, g.2.1, true)) (k := 2) (cell := 4) (cc := 1) (told := g.2.2) (lo := 0) (hi := 99) hb hT h4 R F (by omega) (by omega) (by omega) (by omega) F.2.2 (fun D d0 d1 d2 z => ⟨by rw [d0]; simp, by rw [d1]; simp, by rw [d2, z]; rfl⟩)
                exact m_semi hb (M.map (fun _ f => f) (fun x h' q f => q)) hok
              · rw [if_neg c6] at hok ⊢
                rw [e6, Option.bind_some, if_pos (by rw [show bI (isW b T 6 = true) = 0 from if_neg c6]; exact z0)]
                obtain ⟨h1, w1, t1, k1⟩ := m_wrong hT R.1 (c := 1) (by omega)
                rw [show (if T.1 = 4 then (1 : Int) else 1) = 1 by split <;> rfl] at t1
                refine ⟨h1, ?_, t1, k1.s.u⟩
                rw [w1, Option.bind_some, er_mustSign t1, Option.bind_some]
end MRT
