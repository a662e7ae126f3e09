def HP (st : St) (d : dm_D) (c : Nat) (a : Int32 × am_H × dm_D) : Prop := a.1 = iI 1 ∧ ClR a.2.1 st ∧ Ext c d a.2.2
section HOL
variable {X : dm_X} {d d0 : dm_D} {st : St} {c q : Nat} {u : Nat → Int32}
theorem h412 (ok : Ok st) (hf : dm_full d) {x : Nat} (hx : (x : Int) ≤ pv_wo st.1 (pv_fs st.1 (st.1.1 1 + 1)) (st.1.1 1 + 1)) (E : Ext c d0 d) : ∀ (m k : Nat) (h : am_H), k + m = st.1.1 2 → ClR h st → Aok (HP st d0 c) (F_L_holds_412 X (iI x) (iI k) h d) := by
  have hv := ok.1.1
  have h8 := hv.1
  obtain ⟨-, p2, p3⟩ := pv_fs_ok hv (st.1.1 1 + 1) (Nat.le_refl _)
  have hw := wo_b hv p2 (st.1.1 1 + 1)
  intro m
  induction m with
  | zero =>
    intro k h hk C
    rw [E_L_holds_412]
    refine Aok.cv (cl_setting ok C (t := 2) (by omega)) rfl hf (fun h1 C1 => ?_)
    refine Aok.t (by rw [xI_le (by omega) (by omega) (by omega) (by omega)]; omega) ?_
    refine Aok.ci (cl_worth ok C1) hf (fun h2 C2 => ?_)
    refine Aok.f (show ¬ (iI _ < iI _) by rw [xI_lt (by omega) (by omega) (by omega) (by omega)]; omega) ?_
    exact Aok.fin ⟨rfl, C2, E⟩
  | succ m ih =>
    intro k h hk C
    have h3 := p3 k (by omega)
    rw [E_L_holds_412]
    refine Aok.cv (cl_setting ok C (t := 2) (by omega)) rfl hf (fun h1 C1 => ?_)
    refine Aok.f (by rw [xI_le (by omega) (by omega) (by omega) (by omega)]; omega) ?_
    refine Aok.cv (cl_stockLeft ok C1 (r := (k : Int)) (by omega)) (oSl_e (by omega)) hf (fun h2 C2 => ?_)
    refine Aok.t (by rw [xI_0, xI_le (by omega) (by omega) (by omega) (by omega)]; omega) ?_
    rw [iS]
    exact ih (k + 1) h2 (by omega) C2
theorem h378 (ok : Ok st) (hf : dm_full d) (E : Ext c d0 d) : ∀ (m k : Nat) (h : am_H), k + m = st.1.1 1 + 1 → ClR h st → Aok (HP st d0 c) (F_L_holds_378 X (iI (st.1.1 1)) (iI (cN (fun j => decide (0 ≤ (pv_fs st.1 (st.1.1 1 + 1)).2.1 j)) k)) (iI k) h d) := by
  have hv := ok.1.1
  have h8 := hv.1
  obtain ⟨-, p2, p3⟩ := pv_fs_ok hv (st.1.1 1 + 1) (Nat.le_refl _)
  have hw := wo_b hv p2 (st.1.1 1 + 1)
  intro m
  induction m with
  | zero =>
    intro k h hk C
    obtain rfl : k = st.1.1 1 + 1 := by omega
    rw [E_L_holds_378]
    refine Aok.t (by rw [xI_lt (by omega) (by omega) (by omega) (by omega)]; omega) ?_
    exact h412 ok hf hw.1 E (st.1.1 2) 0 h (Nat.zero_add _) C
  | succ m ih =>
    intro k h hk C
    have h3 := p2 k
    rw [E_L_holds_378]
    refine Aok.f (by rw [xI_lt (by omega) (by omega) (by omega) (by omega)]; omega) ?_
    refine Aok.cv (cl_flourishIn ok C (r := (k : Int)) (by omega)) (oFi_e (by omega)) hf (fun h1 C1 => ?_)
    by_cases z : 0 ≤ (pv_fs st.1 (st.1.1 1 + 1)).2.1 k
    · refine Aok.t (by rw [xI_0, xI_le (by omega) (by omega) (by omega) (by omega)]; exact z) ?_
      have := ih (k + 1) h1 (by omega) C1
      rw [cN_t (p := fun j => decide (0 ≤ (pv_fs st.1 (st.1.1 1 + 1)).2.1 j)) (decide_eq_true z)] at this
      rw [iS, iI_a]
      exact this
    · refine Aok.f (by rw [xI_0, xI_le (by omega) (by omega) (by omega) (by omega)]; exact z) ?_
      have := ih (k + 1) h1 (by omega) C1
      rw [cN_f (p := fun j => decide (0 ≤ (pv_fs st.1 (st.1.1 1 + 1)).2.1 j)) (decide_eq_false z)] at this
      rw [iS, iI_a, Int.add_zero]
      exact this
theorem h342 (ok : Ok st) (hf : dm_full d) (E : Ext c d0 d) (o : dAr d q 0 20 u) (hu : ∀ k, k < 20 → u k = iI (cN (fun j => decide (st.1.2 12 j = (k : Int))) (st.1.1 3))) : ∀ (m k : Nat) (h : am_H), k + m = st.1.1 1 → ClR h st → Aok (HP st d0 c) (F_L_holds_342 X (iI (st.1.1 1)) (.inl 0, q) (iI k) h d) := by
  have hv := ok.1.1
  have h8 := hv.1
  intro m
  induction m with
  | zero =>
    intro k h hk C
    rw [E_L_holds_342]
    refine Aok.t (by rw [xI_le (by omega) (by omega) (by omega) (by omega)]; omega) ?_
    exact h378 ok hf E (st.1.1 1 + 1) 0 h (Nat.zero_add _) C
  | succ m ih =>
    intro k h hk C
    rw [E_L_holds_342]
    refine Aok.f (by rw [xI_le (by omega) (by omega) (by omega) (by omega)]; omega) ?_
    refine Aok.b (lik o k (by omega) (by omega)) ?_
    refine Aok.cv (cl_letter ok C (a := (k : Int)) (t := 12) (by omega) (by omega)) (oLet_12 (by omega)) hf (fun h1 C1 => ?_)
    refine Aok.t (hu k (by omega)) ?_
    rw [iS]
    exact ih (k + 1) h1 (by omega) C1
theorem h242 (ok : Ok st) (I : Inv st.1) (hf0 : dm_full d0) (hq : d0.1 ≤ q) : ∀ (m k : Nat) (h : am_H) (d : dm_D) (u : Nat → Int32), k + m = st.1.1 3 → ClR h st → Ext c d0 d → dAr d q 0 20 u → (∀ i, i < 20 → u i = iI (cN (fun j => decide (st.1.2 12 j = (i : Int))) k)) → Aok (HP st d0 c) (F_L_holds_242 X (iI (st.1.1 1)) (.inl 0, q) (iI k) h d) := by
  have hv := ok.1.1
  have h8 := hv.1
  intro m
  induction m with
  | zero =>
    intro k h d u hk C E o hu
    obtain rfl : k = st.1.1 3 := by omega
    rw [E_L_holds_242]
    refine Aok.cv (cl_setting ok C (t := 7) (by omega)) rfl (E.full hf0) (fun h1 C1 => ?_)
    refine Aok.t (by rw [xI_le (by omega) (by omega) (by omega) (by omega)]; omega) ?_
    exact h342 ok (E.full hf0) E o hu (st.1.1 1) 0 h1 (Nat.zero_add _) C1
  | succ m ih =>
    intro k h d u hk C E o hu
    have hs : k < st.1.1 3 := by omega
    have h6 := hv.2.2.2.2.2.1 k hs
    obtain ⟨p, hp⟩ : ∃ p : Nat, st.1.2 12 k = p := ⟨(st.1.2 12 k).toNat, by omega⟩
    have hp2 : p < 20 := by omega
    have hI := (I k hs).2
    have hsb := pv_sb_b hv hs
    have e0 := oScr_0 hs
    rw [hp] at e0
    rw [E_L_holds_242]
    refine Aok.cv (cl_setting ok C (t := 7) (by omega)) rfl (E.full hf0) (fun h1 C1 => ?_)
    refine Aok.f (by rw [xI_le (by omega) (by omega) (by omega) (by omega)]; omega) ?_
    refine Aok.cv (cl_scratch ok C1 (a := (k : Int)) (t := 0) (by omega) (by omega)) e0 (E.full hf0) (fun h2 C2 => ?_)
    refine Aok.b (lik o p hp2 (by omega)) ?_
    refine Aok.b (wik o hp2 (by omega)) ?_
    have E1 : Ext c d0 (dm_se d q (.inr (.inl (0, 20, upd u p (u p + iI 1))))) := E.se hq
    have o1 : dAr (dm_se d q (.inr (.inl (0, 20, upd u p (u p + iI 1))))) q 0 20 (upd u p (u p + iI 1)) := dAr.se o.1
    have hu1 : ∀ i, i < 20 → upd u p (u p + iI 1) i = iI (cN (fun j => decide (st.1.2 12 j = (i : Int))) (k + 1)) := fun i hi => by
      by_cases e : i = p
      · subst e
        rw [cN_t (p := fun j => decide (st.1.2 12 j = (i : Int))) (decide_eq_true hp), show upd u i (u i + iI 1) i = u i + iI 1 from if_pos rfl, hu i hi, iI_a]
        rfl
      · rw [cN_f (p := fun j => decide (st.1.2 12 j = (i : Int))) (decide_eq_false (by omega)), show upd u p (u p + iI 1) i = u i from if_neg e, hu i hi]
    refine Aok.cv (cl_scratch ok C2 (a := (k : Int)) (t := 2) (by omega) (by omega)) (oScr_2 hs) (E1.full hf0) (fun h3 C3 => ?_)
    refine Aok.cv (cl_scratch ok C3 (a := (k : Int)) (t := 1) (by omega) (by omega)) (oScr_1 hs) (E1.full hf0) (fun h4 C4 => ?_)
    refine Aok.f (by decide) ?_
    refine Aok.t (by rw [xI_rn (by omega) (by omega) (by omega) (by omega), hI]; rfl) ?_
    refine Aok.cv (cl_scratch ok C4 (a := (k : Int)) (t := 1) (by omega) (by omega)) (oScr_1 hs) (E1.full hf0) (fun h5 C5 => ?_)
    refine Aok.f (by rw [xI_lt (by omega) (by omega) (by omega) (by omega)]; omega) ?_
    refine Aok.cv (cl_scratch ok C5 (a := (k : Int)) (t := 1) (by omega) (by omega)) (oScr_1 hs) (E1.full hf0) (fun h6 C6 => ?_)
    refine Aok.f (by rw [xI_lt (by omega) (by omega) (by omega) (by omega)]; omega) ?_
    by_cases z : pv_sb st.1 k < 0
    · refine Aok.t (by rw [xI_0, xI_lt (by omega) (by omega) (by omega) (by omega)]; exact z) ?_
      rw [iS]
      exact ih (k + 1) h6 _ _ (by omega) C6 E1 o1 hu1
    · refine Aok.f (by rw [xI_0, xI_lt (by omega) (by omega) (by omega) (by omega)]; exact z) ?_
      have hi := iS_of hs
      have hl := sb_lt (v := st.1) (s := k)
      obtain ⟨t, ht⟩ : ∃ t : Nat, pv_sb st.1 k = t := ⟨(pv_sb st.1 k).toNat, by omega⟩
      rw [ht] at hi hl ⊢
      have e9 := oLet_9 (st := st) (k := t) (by omega)
      rw [show bI (pv_iS st.1 (t : Int)) = 1 from if_pos hi] at e9
      refine Aok.cv (cl_letter ok C6 (a := (t : Int)) (t := 9) (by omega) (by omega)) e9 (E1.full hf0) (fun h7 C7 => ?_)
      refine Aok.t rfl ?_
      rw [iS]
      exact ih (k + 1) h7 _ _ (by omega) C7 E1 o1 hu1
theorem h13 (ok : Ok st) (I : Inv st.1) (hf : dm_full d) (hb : d.2.1 + 21 ≤ dm_L) : ∀ (m k : Nat) (h : am_H), k + m = st.1.1 1 + 1 → ClR h st → Aok (HP st d 21) (F_L_holds_13 X (iI (st.1.1 1)) (iI (if k ≤ st.1.1 1 then pv_fr st.1 k else pv_wP st.1)) (iI k) h d) := by
  have hv := ok.1.1
  have h8 := hv.1
  have hm := hv.2.2.2.2.2.2
  have hwT := pv_tW_b hv
  intro m
  induction m with
  | zero =>
    intro k h hk C
    rw [E_L_holds_13, if_neg (show ¬ k ≤ st.1.1 1 by omega)]
    refine Aok.t (by rw [xI_lt (by omega) (by omega) (by omega) (by omega)]; omega) ?_
    refine Aok.cv (cl_setting ok C (t := 4) (by omega)) rfl hf (fun h1 C1 => ?_)
    refine Aok.t rfl ?_
    refine Aok.b (na_at (by omega) (by omega) hb) ?_
    exact h242 ok I hf (Nat.le_refl _) (st.1.1 3) 0 h1 _ (fun _ => 0) (Nat.zero_add _) C1 Ext.nw dAr.nw (fun i hi => rfl)
  | succ m ih =>
    intro k h hk C
    have hkn : k ≤ st.1.1 1 := by omega
    have hr := pv_rm_b hv hkn
    have htl := pv_ti_le st.1 (st.1.1 1)
    have ht := pv_rm_b hv htl
    have hmin := ti_min (v := st.1) (st.1.1 1 + 1) k (by omega)
    have hfr := fr_b hv hkn
    rw [E_L_holds_13, if_pos hkn]
    refine Aok.f (by rw [xI_lt (by omega) (by omega) (by omega) (by omega)]; omega) ?_
    refine Aok.cv (cl_room ok C (r := (k : Int)) (by omega)) (oRoom_e hkn) hf (fun h1 C1 => ?_)
    refine Aok.ci (cl_crowded ok C1) hf (fun h2 C2 => ?_)
    have hbit : (((pv_crS st.1 (st.1.1 1 + 1)) >>> (iI (k : Int) &&& 31)) &&& iI 1 = iI 1) = (pv_rm st.1 k < 100 * st.1.2 0 1) := by
      rw [← iI_nI]
      refine (has_bt (D := pv_crS st.1 (st.1.1 1 + 1)) (k := k) (by omega)).trans ?_
      rw [crS_bt (by omega) (by omega), decide_eq_true_eq]
      exact propext ⟨fun z => z.2, fun z => ⟨by omega, z⟩⟩
    rw [iI_a]
    have key : ∀ (y : Int) (h2 : am_H), y = bI (pv_rm st.1 k < 100 * st.1.2 0 1) → ClR h2 st → Aok (HP st d 21) (F_L_holds_46 X (iI (st.1.1 1)) (iI (pv_fr st.1 k + pv_rm st.1 k)) (iI k) (iI y) h2 d) := by
      intro y h2 hy C2
      rw [E_L_holds_46]
      refine Aok.cv (cl_room ok C2 (r := (k : Int)) (by omega)) (oRoom_e hkn) hf (fun h3 C3 => ?_)
      refine Aok.cv (cl_setting ok C3 (t := 6) (by omega)) rfl hf (fun h4 C4 => ?_)
      rw [iI_m]
      have key2 : ∀ (h4 : am_H), ClR h4 st → Aok (HP st d 21) (F_L_holds_69 X (iI (st.1.1 1)) (iI (pv_fr st.1 k + pv_rm st.1 k)) (iI k) (iI y) (iI y) h4 d) := by
        intro h4 C4
        rw [E_L_holds_69]
        refine Aok.t rfl ?_
        refine Aok.cv (cl_room ok C4 (r := (k : Int)) (by omega)) (oRoom_e hkn) hf (fun h5 C5 => ?_)
        refine Aok.ci (cl_tightest ok C5) hf (fun h6 C6 => ?_)
        refine Aok.cv (cl_room ok C6 (r := (pv_ti st.1 (st.1.1 1 + 1) : Int)) (by omega)) (oRoom_e htl) hf (fun h7 C7 => ?_)
        refine Aok.t (by rw [xI_le (by omega) (by omega) (by omega) (by omega)]; exact hmin) ?_
        by_cases e : k = st.1.1 1
        · refine Aok.t (by rw [e]) ?_
          have := ih (k + 1) h7 (by omega) C7
          rw [if_neg (by omega)] at this
          rw [iS, show pv_fr st.1 k + pv_rm st.1 k = pv_wP st.1 by rw [e]; exact fr_last]
          exact this
        · refine Aok.f (by rw [xI_eq (by omega) (by omega) (by omega) (by omega)]; omega) ?_
          have hk2 : k < st.1.1 1 := by omega
          have hw := pv_w_b hv hk2
          have hle := pv_le_b hv hk2
          have hre := pv_re_b hv hk2
          have hct := pv_ct_b hv hk2
          have hcp := pv_cp_b hv k
          have h6 := hv.2.2.1 k hk2
          have e12 := oLet_12 hk2
          refine Aok.cv (cl_letter ok C7 (a := (k : Int)) (t := 1) (by omega) (by omega)) (oLet_1 hk2) hf (fun h8 C8 => ?_)
          refine Aok.cv (cl_letter ok C8 (a := (k : Int)) (t := 5) (by omega) (by omega)) (oLet_5 hk2) hf (fun h9 C9 => ?_)
          refine Aok.cv (cl_letter ok C9 (a := (k : Int)) (t := 4) (by omega) (by omega)) (oLet_4 hk2) hf (fun h10 C10 => ?_)
          refine Aok.cv (cl_letter ok C10 (a := (k : Int)) (t := 1) (by omega) (by omega)) (oLet_1 hk2) hf (fun h11 C11 => ?_)
          refine Aok.t (by rw [iI_s]; congr 1; unfold pv_re pv_le; omega) ?_
          refine Aok.cv (cl_letter ok C11 (a := (k : Int)) (t := 3) (by omega) (by omega)) (oLet_3 hk2) hf (fun h12 C12 => ?_)
          refine Aok.cv (cl_letter ok C12 (a := (k : Int)) (t := 2) (by omega) (by omega)) (oLet_2 hk2) hf (fun h13 C13 => ?_)
          refine Aok.cr (cl_partsAt ok C13 (t := pv_ct st.1 k) (by omega)) (if_pos ⟨hct.1, hct.2.1⟩) hf ?_
          refine Aok.t rfl ?_
          refine Aok.cv (cl_letter ok C13 (a := (k : Int)) (t := 6) (by omega) (by omega)) (oLet_6 hk2) hf (fun h14 C14 => ?_)
          refine Aok.cv (cl_letter ok C14 (a := (k : Int)) (t := 2) (by omega) (by omega)) (oLet_2 hk2) hf (fun h15 C15 => ?_)
          refine Aok.cr (cl_heading ok C15 (t := pv_ct st.1 k) (by omega)) (if_pos ⟨hct.1, hct.2.1⟩) hf ?_
          refine Aok.t rfl ?_
          refine Aok.cv (cl_letter ok C15 (a := (k : Int)) (t := 8) (by omega) (by omega)) (oLet_8 hk2) hf (fun h16 C16 => ?_)
          have last : ∀ (h17 : am_H), ClR h17 st → Aok (HP st d 21) (F_L_holds_202 X (iI (st.1.1 1)) (iI (pv_fr st.1 k + pv_rm st.1 k) + iI (1000 * pv_w st.1 k)) (iI k) h17 d) := by
            intro h17 C17
            rw [E_L_holds_202]
            refine Aok.cv (cl_letter ok C17 (a := (k : Int)) (t := 11) (by omega) (by omega)) (oLet_11 hk2) hf (fun h18 C18 => ?_)
            refine Aok.t (by rw [xI_le (by omega) (by omega) (by omega) (by omega)]; omega) ?_
            have := ih (k + 1) h18 (by omega) C18
            rw [if_pos (by omega)] at this
            rw [iS, iI_a, fr_step hv hk2]
            exact this
          by_cases z : st.1.2 6 k = 0
          · refine Aok.t (by rw [z]; rfl) ?_
            rw [inv_cnt I z] at e12
            refine Aok.cv (cl_letter ok C16 (a := (k : Int)) (t := 12) (by omega) (by omega)) e12 hf (fun h17 C17 => ?_)
            refine Aok.f (by decide) ?_
            exact last h17 C17
          · refine Aok.f (by rw [xI_0, xI_eq (by omega) (by omega) (by omega) (by omega)]; exact z) ?_
            exact last h16 C16
      by_cases z : pv_rm st.1 k < 100 * st.1.2 0 1
      · refine Aok.f (by rw [xI_le (by omega) (by omega) (by omega) (by omega)]; omega) ?_
        obtain rfl : y = 1 := hy.trans (if_pos z)
        exact key2 h4 C4
      · refine Aok.t (by rw [xI_le (by omega) (by omega) (by omega) (by omega)]; omega) ?_
        obtain rfl : y = 0 := hy.trans (if_neg z)
        exact key2 h4 C4
    by_cases z : pv_rm st.1 k < 100 * st.1.2 0 1
    · refine Aok.t (show _ from by rw [hbit]; exact z) ?_
      exact key 1 h2 (if_pos z).symm C2
    · refine Aok.f (show ¬ _ from by rw [hbit]; exact z) ?_
      exact key 0 h2 (if_neg z).symm C2
theorem holds_ok {h : am_H} (ok : Ok st) (C : ClR h st) (I : Inv st.1) (hf : dm_full d) (hb : d.2.1 + 21 ≤ dm_L) : Aok (HP st d 21) (F_L_holds X h d) := by
  unfold F_L_holds
  refine Aok.cv (cl_setting ok C (t := 1) (by omega)) rfl hf (fun h1 C1 => ?_)
  have := h13 (X := X) ok I hf hb (st.1.1 1 + 1) 0 h1 (Nat.zero_add _) C1
  rw [if_pos (Nat.zero_le _)] at this
  exact this
end HOL
