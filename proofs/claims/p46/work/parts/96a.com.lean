/-! what engraving would bring it brings; then it is undone -/
section CMP
variable {v : pv_T} {st : St}
theorem pu_id : pu v 0 0 (v.2 0 0) = v := by
  refine Prod.ext rfl ?_
  funext c i
  show (if c = 0 then (if i = 0 then v.2 0 0 else v.2 c i) else v.2 c i) = v.2 c i
  by_cases h : c = 0
  · rw [if_pos h]
    by_cases h2 : i = 0
    · rw [if_pos h2, h, h2]
    · rw [if_neg h2]
  · rw [if_neg h]
theorem pu_pu {a b : Int} : pu (pu v 0 0 a) 0 0 b = pu v 0 0 b := by
  refine Prod.ext rfl ?_
  funext c i
  show (if c = 0 then (if i = 0 then b else (if c = 0 then (if i = 0 then a else v.2 c i) else v.2 c i)) else (if c = 0 then (if i = 0 then a else v.2 c i) else v.2 c i)) = (if c = 0 then (if i = 0 then b else v.2 c i) else v.2 c i)
  by_cases h : c = 0
  · rw [if_pos h, if_pos h, if_pos h]
    by_cases h2 : i = 0
    · rw [if_pos h2, if_pos h2]
    · rw [if_neg h2, if_neg h2, if_neg h2]
  · rw [if_neg h, if_neg h, if_neg h]
theorem oSl1_id : oSl1 v (v.2 0 0) = ((enA 1000 v (v.1 1)).2.1 3 : Int) - v.1 3 := by
  unfold oSl1
  rw [pu_id]
theorem enA_mono {lim : Nat} {m : Nat} : ∀ n, m ≤ n → (enA lim v m).2.1 3 ≤ (enA lim v n).2.1 3
  | 0, h => by
    obtain rfl : m = 0 := by omega
    exact Nat.le_refl _
  | n + 1, h => by
    by_cases e : m = n + 1
    · rw [e]
      exact Nat.le_refl _
    · have ih := enA_mono (lim := lim) n (by omega : m ≤ n)
      by_cases c : (enA lim v n).2.2 6 n = 0 ∧ (enA lim v n).2.1 3 ≤ lim
      · rw [enA_t c]
        exact Nat.le_trans ih (engL_3 _ _).1
      · rw [enA_f c]
        exact ih
theorem enA_eq {n : Nat} (h : (enA 1000 v n).2.1 3 ≤ 40) : ∀ m, m ≤ n → enA 40 v m = enA 1000 v m
  | 0, _ => rfl
  | m + 1, hm => by
    have ih := enA_eq h m (by omega)
    have h1 := enA_mono (lim := 1000) (v := v) (m := m) n (by omega)
    by_cases c : (enA 1000 v m).2.2 6 m = 0
    · rw [enA_t (lim := 1000) ⟨c, by omega⟩, enA_t (lim := 40) (by rw [ih]; exact ⟨c, by omega⟩), ih]
    · rw [enA_f (lim := 1000) (fun z => c z.1), enA_f (lim := 40) (by rw [ih]; exact fun z => c z.1), ih]
theorem enA_all {n : Nat} (h6 : ∀ i, i < n → 0 ≤ v.2 6 i ∧ v.2 6 i ≤ 1) (hc : ∀ m, m ≤ n → (enA 40 v m).2.1 3 ≤ 40) : ∀ m, m ≤ n → (∀ j, j < m → (enA 40 v m).2.2 6 j = 1) ∧ (enA 40 v m).1 + cN (fun j => decide (v.2 6 j = 1)) m = m
  | 0, _ => ⟨fun j hj => absurd hj (Nat.not_lt_zero j), rfl⟩
  | m + 1, hm => by
    obtain ⟨i1, i2⟩ := enA_all h6 hc m (by omega)
    have h1 := hc m (by omega)
    have h2 := h6 m (by omega)
    have e6 := enA_6 (lim := 40) (v := v) (i := m) m (Nat.le_refl _)
    by_cases c : v.2 6 m = 0
    · have hcc : (enA 40 v m).2.2 6 m = 0 ∧ (enA 40 v m).2.1 3 ≤ 40 := ⟨e6.trans c, h1⟩
      rw [enA_t hcc, cN_f (p := fun j => decide (v.2 6 j = 1)) (decide_eq_false (by omega))]
      refine ⟨fun j hj => ?_, by show (enA 40 v m).1 + 1 + _ = _; omega⟩
      by_cases e : j = m
      · subst e
        show (pu _ 6 j 1).2 6 j = 1
        rw [pu_s]
      · show (engL _ m).2 6 j = 1
        rw [engL_6 e]
        exact i1 j (by omega)
    · have hcc : ¬ ((enA 40 v m).2.2 6 m = 0 ∧ (enA 40 v m).2.1 3 ≤ 40) := fun z => c (e6.symm.trans z.1)
      rw [enA_f hcc, cN_t (p := fun j => decide (v.2 6 j = 1)) (decide_eq_true (by omega))]
      refine ⟨fun j hj => ?_, by omega⟩
      by_cases e : j = m
      · subst e
        rw [e6]
        omega
      · exact i1 j (by omega)
theorem cN_1 {p : Nat → Bool} : ∀ n, (∀ i, i < n → p i = true) → cN p n = n
  | 0, _ => rfl
  | n + 1, h => by rw [cN_t (h n (by omega)), cN_1 n (fun i hi => h i (by omega))]
theorem pP_1 : 0 < (pushP st).1 ∧ (pushP st).2 ((pushP st).1 - 1) = st.1 ∧ ((pushP st).1 ≤ st.2.2.1.1 + 1 ∨ (pushP st).1 = 6) := by
  unfold pushP
  split
  · refine ⟨Nat.succ_pos _, ?_, Or.inl (Nat.le_refl _)⟩
    show (if st.2.2.1.1 + 1 - 1 = st.2.2.1.1 then st.1 else _) = _
    rw [if_pos (by omega)]
  · exact ⟨by show 0 < 6; omega, rfl, Or.inr rfl⟩
theorem un_1 {x : pv_T} : (sUn (setPl (stK st) x)).1 = st.1 := by
  obtain ⟨h1, h2, -⟩ := pP_1 (st := st)
  show (if 0 < (pushP st).1 then setPl (setU (setPl (stK st) x) ((pushP st).1 - 1)) ((pushP st).2 ((pushP st).1 - 1)) else _).1 = _
  rw [if_pos h1]
  exact h2
theorem un_2 (ok : Ok st) {x : pv_T} : 0 ≤ oUn (setPl (stK st) x) := by
  obtain ⟨h1, h2, h3⟩ := pP_1 (st := st)
  have h6 := ok.2.2.1.1
  show (0 : Int32) ≤ (if 0 < (pushP st).1 then iI (((pushP st).1 - 1 : Nat) : Int) else _)
  rw [if_pos h1, xI_0, xI_le (by omega) (by omega) (by omega) (by omega)]
  omega
theorem ls_at (h : oLs v ≠ -1) : oSl1 v (oLs v) = 0 ∧ 1 ≤ oLs v ∧ oLs v ≤ 99 := by
  have hat := pv_fst_at (fun i => decide (oSl1 v ((i : Int) + 1) = 0)) 99 0
  unfold oLs lsP at *
  generalize pv_fst (fun i => decide (oSl1 v ((i : Int) + 1) = 0)) 99 0 = m at hat h ⊢
  simp only [decide_eq_true_eq] at hat
  by_cases c : m < 99
  · rw [if_pos c]
    exact ⟨hat (by omega), by omega, by omega⟩
  · rw [if_neg c] at h
    exact absurd rfl h
theorem ls_b : -1 ≤ oLs v ∧ oLs v ≤ 99 := by
  unfold oLs
  split <;> omega
end CMP
/-- both hold a state again -/
def CP (w : Nat) (tx : am_v) (N : Nat → Nat) (c : Nat) (d : dm_D) (a : Int32 × am_H × dm_D) : Prop := a.1 ≠ 0 ∧ (∃ st', Both w tx N a.2.1 a.2.2 st') ∧ Hol c d a.2.2
section CMQ
variable {X : dm_X} {d d0 : dm_D} {st : St} {w : Nat} {tx : am_v} {N : Nat → Nat} {M : Nat → Int32} {E : Nat → am_G × Nat} {F : Nat → Nat → Nat}
theorem al_end {h : am_H} {c : Nat} (ok : Ok st) (hf : dm_full d) (C : ClR h st) (I : Inv st.1) (h0 : st.1.1 3 = 0) (R : WR d w st.1 tx N M E F) (hb : d.2.1 + 1720 ≤ dm_L) (H : Hol c d0 d) : Aok (CP w tx N (c + 1720) d0) ((F_L_alike X (.inl 0, w) h d).bind (fun a4 => if zb a4.1 then (some (a4.1, a4.2.1, a4.2.2)) else none)) := by
  obtain ⟨⟨x, h1, d1⟩, e, rfl, p2, p3⟩ := alike_ok (X := X) ok hf C h0 R hb
  refine Aok.b e ?_
  refine Aok.t (Or.inr rfl) ?_
  exact Aok.fin ⟨one_n0, ⟨st, ok, p2, I, p3.full hf, M, E, F, R.ext p3⟩, H.tr p3.hol⟩
theorem com120 {h : am_H} {c : Nat} (ok : Ok st) (hf : dm_full d) (C : ClR h st) (I : Inv st.1) (h0 : st.1.1 3 = 0) (R : WR d w st.1 tx N M E F) (hb : d.2.1 + 1720 ≤ dm_L) (H : Hol c d0 d) : Aok (CP w tx N (c + 1720) d0) (F_L_comes_120 X (.inl 0, w) h d) := by
  have hg := ok.1.1.2.2.2.2.2.2
  have hl := ls_b (v := st.1)
  unfold F_L_comes_120
  refine Aok.ci (cl_leastSharp ok C) hf (fun h1 C1 => ?_)
  refine Aok.cv (cl_setting ok C1 (t := 5) (by omega)) rfl hf (fun h2 C2 => ?_)
  by_cases c1 : oLs st.1 ≤ st.1.2 0 0
  · refine Aok.t (show iI _ ≤ iI _ by rw [xI_le (by omega) (by omega) (by omega) (by omega)]; exact c1) ?_
    exact al_end ok hf C2 I h0 R hb H
  · refine Aok.f (show ¬ iI _ ≤ iI _ by rw [xI_le (by omega) (by omega) (by omega) (by omega)]; exact c1) ?_
    obtain ⟨z1, z2, z3⟩ := ls_at (v := st.1) (by omega)
    have hsh : shV st.1 (oLs st.1 - st.1.2 0 0) = oLs st.1 := by
      unfold shV
      split <;> omega
    have e1 : oSh st (oLs st.1 - st.1.2 0 0) = .inl (iI (oLs st.1)) := by
      unfold oSh
      rw [if_pos (by omega), hsh]
    have e3 : sSh st (oLs st.1 - st.1.2 0 0) = setPl (stK st) (pu st.1 0 0 (oLs st.1)) := by
      unfold sSh
      rw [if_pos (by omega), hsh]
    have ok3 := sSh_ok ok (n := oLs st.1 - st.1.2 0 0)
    have q3 := cl_sharpen ok C2 (n := oLs st.1 - st.1.2 0 0) (by omega)
    rw [e3] at ok3 q3
    rw [← iI_s] at q3
    refine Aok.cv q3 e1 hf (fun h3 C3 => ?_)
    refine Aok.t rfl ?_
    refine Aok.ci (cl_slipsIf ok3 C3) hf (fun h4 C4 => ?_)
    have e5 : oSl1 (setPl (stK st) (pu st.1 0 0 (oLs st.1))).1 ((setPl (stK st) (pu st.1 0 0 (oLs st.1))).1.2 0 0) = 0 := by
      show oSl1 (pu st.1 0 0 (oLs st.1)) ((pu st.1 0 0 (oLs st.1)).2 0 0) = 0
      rw [pu_s]
      have : oSl1 (pu st.1 0 0 (oLs st.1)) (oLs st.1) = oSl1 st.1 (oLs st.1) := by
        unfold oSl1
        rw [pu_pu]
        rfl
      rw [this]
      exact z1
    refine Aok.t (show iI _ = (0 : Int32) by rw [e5]; rfl) ?_
    refine Aok.ci (cl_undo ok3 C4) hf (fun h5 C5 => ?_)
    refine Aok.t (un_2 ok) ?_
    have e6 : (sUn (setPl (stK st) (pu st.1 0 0 (oLs st.1)))).1 = st.1 := un_1
    exact al_end (sUn_ok ok3) hf C5 (by rw [e6]; exact I) (by rw [e6]; exact h0) (by rw [e6]; exact R) hb H
theorem comes_ok {h : am_H} (B : Both w tx N h d st) (hb : d.2.1 + 1730 ≤ dm_L) : Aok (CP w tx N 1730 d) (F_L_comes X (.inl 0, w) h d) := by
  have B0 := B
  obtain ⟨ok, C, I, hf, M, E, F, R⟩ := B
  have hv := ok.1.1
  have h8 := hv.1
  have hcn := cN_le (fun j => decide (st.1.2 6 j = 1)) (st.1.1 1)
  unfold F_L_comes
  refine Aok.b (fr_at R.1 rfl) ?_
  refine Aok.b (rk_at R.arc.1) ?_
  refine Aok.b (empty_at R.arc) ?_
  by_cases a0 : st.1.1 0 = 0
  · refine Aok.f (by unfold bI; rw [if_pos a0]; decide) ?_
    exact Aok.fin ⟨one_n0, ⟨st, B0⟩, Hol.rf.le (Nat.zero_le _)⟩
  · refine Aok.t (by unfold bI; rw [if_neg a0]; rfl) ?_
    refine Aok.b (rk_at R.1) ?_
    obtain ⟨d1, q1, E1⟩ := engraved_ok (X := X) hv R (by omega)
    refine Aok.b q1 ?_
    have R1 := R.ext E1
    have hf1 := E1.full hf
    have B1 : Both w tx N h d1 st := ⟨ok, C, I, hf1, M, E, F, R1⟩
    refine Aok.b (fr_at R1.1 rfl) ?_
    refine Aok.b (rk_at R1.let.1) ?_
    refine Aok.b (size_at R1.let) ?_
    by_cases en : cN (fun j => decide (st.1.2 6 j = 1)) (st.1.1 1) = st.1.1 1
    · refine Aok.t (show iI _ = iI _ by rw [en]) ?_
      exact Aok.fin ⟨one_n0, ⟨st, B1⟩, E1.hol.le (by omega)⟩
    · refine Aok.f (show ¬ iI _ = iI _ by rw [xI_eq (by omega) (by omega) (by omega) (by omega)]; omega) ?_
      refine Aok.b (fr_at R1.1 rfl) ?_
      refine Aok.b (rk_at R1.scr.1) ?_
      refine Aok.b (size_at R1.scr) ?_
      by_cases h0 : st.1.1 3 = 0
      · refine Aok.t (by rw [h0]; decide) ?_
        have hs := oSl1_b st.1 (st.1.2 0 0)
        have hsI := oSl1_id (v := st.1)
        refine Aok.ci (cl_slipsIf ok C) hf1 (fun h1 C1 => ?_)
        refine Aok.cv (cl_setting ok C1 (t := 7) (by omega)) rfl hf1 (fun h2 C2 => ?_)
        by_cases s40 : 40 ≤ oSl1 st.1 (st.1.2 0 0)
        · refine Aok.t (show iI _ ≤ iI _ by rw [xI_le (by omega) (by omega) (by omega) (by omega)]; exact s40) ?_
          obtain ⟨a, e, p1, p2, p3⟩ := com120 (X := X) (c := 5) ok hf1 C2 I h0 R1 (by have := E1.2.1; omega) E1.hol
          exact ⟨a, e, p1, p2, p3.le (by omega)⟩
        · refine Aok.f (show ¬ iI _ ≤ iI _ by rw [xI_le (by omega) (by omega) (by omega) (by omega)]; exact s40) ?_
          have hall : cAll st.1 = true := decide_eq_true ⟨by omega, by omega, by omega⟩
          have e1 : oEa st = .inl (iI (enA 40 st.1 (st.1.1 1)).1) := if_pos hall
          have e3 : sEa st = setPl (stK st) (enA 40 st.1 (st.1.1 1)).2 := if_pos hall
          have hq := enA_eq (v := st.1) (n := st.1.1 1) (by omega)
          have hmo : ∀ m, m ≤ st.1.1 1 → (enA 40 st.1 m).2.1 3 ≤ 40 := fun m hm => by
            have := enA_mono (lim := 1000) (v := st.1) (m := m) (st.1.1 1) hm
            rw [hq m hm]
            omega
          obtain ⟨i1, i2⟩ := enA_all (v := st.1) (n := st.1.1 1) (fun i hi => by have := hv.2.2.1 i hi; omega) hmo (st.1.1 1) (Nat.le_refl _)
          have e40 : ((enA 40 st.1 (st.1.1 1)).2.1 3 : Int) = oSl1 st.1 (st.1.2 0 0) := by
            rw [hq _ (Nat.le_refl _)]
            omega
          have eS := (enA_S (lim := 40) (v := st.1) (st.1.1 1)).2.1
          have ok3 := sEa_ok ok
          have q3 := cl_engraveAll ok C2
          rw [e3] at ok3 q3
          refine Aok.cv q3 e1 hf1 (fun h3 C3 => ?_)
          refine Aok.b (fr_at R1.1 rfl) ?_
          refine Aok.b (rk_at R1.let.1) ?_
          refine Aok.b (size_at R1.let) ?_
          refine Aok.b (rk_at R1.1) ?_
          obtain ⟨d2, q2, E2⟩ := engraved_ok (X := X) hv R1 (by have := E1.2.1; omega)
          refine Aok.b q2 ?_
          have hf2 := E2.full hf1
          have E3 := E1.tr E2
          refine Aok.t (show iI _ = iI _ - iI _ by rw [iI_s]; congr 1; omega) ?_
          refine Aok.cv (cl_setting ok3 C3 (t := 7) (by omega)) rfl hf2 (fun h4 C4 => ?_)
          refine Aok.t (show iI ((enA 40 st.1 (st.1.1 1)).2.1 3) = iI _ + iI _ by rw [iI_a]; congr 1; omega) ?_
          refine Aok.cv (cl_setting ok3 C4 (t := 8) (by omega)) rfl hf2 (fun h5 C5 => ?_)
          refine Aok.cv (cl_setting ok3 C5 (t := 1) (by omega)) rfl hf2 (fun h6 C6 => ?_)
          refine Aok.t (show iI (cN (fun j => decide ((enA 40 st.1 (st.1.1 1)).2.2 6 j = 1)) ((enA 40 st.1 (st.1.1 1)).2.1 1)) = iI ((enA 40 st.1 (st.1.1 1)).2.1 1) by rw [eS, cN_1 _ (fun i hi => decide_eq_true (i1 i hi))]) ?_
          refine Aok.ci (cl_undo ok3 C6) hf2 (fun h7 C7 => ?_)
          refine Aok.t (un_2 ok) ?_
          have e6 : (sUn (setPl (stK st) (enA 40 st.1 (st.1.1 1)).2)).1 = st.1 := un_1
          obtain ⟨a, e, p1, p2, p3⟩ := com120 (X := X) (c := 5 + 5) (sUn_ok ok3) hf2 C7 (by rw [e6]; exact I) (by rw [e6]; exact h0) (by rw [e6]; exact R.ext E3) (by have := E3.2.1; omega) E3.hol
          exact ⟨a, e, p1, p2, p3.le (by omega)⟩
      · refine Aok.f (show ¬ iI _ ≤ (0 : Int32) by rw [xI_0, xI_le (by omega) (by omega) (by omega) (by omega)]; omega) ?_
        exact Aok.fin ⟨one_n0, ⟨st, B1⟩, E1.hol.le (by omega)⟩
end CMQ
