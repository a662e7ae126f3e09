/-! what is done with tokens: the reference's -/
def mo_tk (h : am_H) (b : bfT) (T : Tk) : Prop := mo_t0 h b T ∧ h.1 (.inl 0) 0 8 = iI 0 ∧ h.1 (.inl 0) 0 9 = iI (-1)
def mo_er (h : am_H) (e : Int × Int) : Prop := h.1 (.inl 0) 0 8 = iI e.1 ∧ h.1 (.inl 0) 0 9 = iI e.2 ∧ 1 ≤ e.1 ∧ e.1 ≤ 5
/-- what tokens leave alone -/
def TF (h h' : am_H) : Prop := (∀ j, j < 4 ∨ 9 < j → h'.1 (.inl 0) 0 j = h.1 (.inl 0) 0 j) ∧ Wr [(.inl 0, 0)] h h'
theorem TF.rf {h : am_H} : TF h h := ⟨fun _ _ => rfl, Wr.rf⟩
theorem TF.tr {h h1 h2 : am_H} (a : TF h h1) (c : TF h1 h2) : TF h h2 := ⟨fun j hj => (c.1 j hj).trans (a.1 j hj), a.2.tr c.2⟩
def mK {X : Type} (o : Option am_H) (r : Rs X) (E : am_H → Prop) (Q : X → am_H → Prop) : Prop := match r with
  | .inl e => ∃ h', o = some h' ∧ mo_er h' e ∧ E h'
  | .inr x => ∃ h', o = some h' ∧ Q x h' ∧ E h'
/-- a number is read: what is answered behind an error is of no matter -/
def mKn {X : Type} (o : Option (Int32 × am_H)) (r : Rs X) (E : am_H → Prop) (Q : X → Int32 → am_H → Prop) : Prop := match r with
  | .inl e => ∃ y h', o = some (y, h') ∧ mo_er h' e ∧ E h'
  | .inr x => ∃ y h', o = some (y, h') ∧ Q x y h' ∧ E h'
def txW : Nat → Nat
  | 0 => 1603
  | 1 => 460197
  | 2 => 763013
  | 3 => 219569268328
  | 4 => 627876
  | 5 => 20186704
  | 6 => 437853486
  | 7 => 19176724
  | 8 => 263748
  | 9 => 5846402757
  | 10 => 1420
  | 11 => 431556
  | 12 => 553002600
  | 13 => 20671185070
  | _ => 609752116
theorem tx_pk : ∀ t, t < 15 → pkN (txC t) (am_tx t).length = txW t := by decide +kernel
theorem pkN_inj {f g : Nat → Int} : ∀ {n m : Nat}, (∀ i, i < n → 97 ≤ f i ∧ f i ≤ 122) → (∀ i, i < m → 97 ≤ g i ∧ g i ≤ 122) → pkN f n = pkN g m → n = m ∧ ∀ i, i < n → f i = g i
  | 0, 0, _, _, _ => ⟨rfl, fun i hi => absurd hi (Nat.not_lt_zero i)⟩
  | 0, m + 1, _, hg, e => by
    have := (pkN_b (f := g) (n := m + 1) hg).2 (by omega)
    have e0 : pkN f 0 = 0 := rfl
    omega
  | n + 1, 0, hf, _, e => by
    have := (pkN_b (f := f) (n := n + 1) hf).2 (by omega)
    have e0 : pkN g 0 = 0 := rfl
    omega
  | n + 1, m + 1, hf, hg, e => by
    have h1 := hf n (by omega)
    have h2 := hg m (by omega)
    rw [pkN_s h1, pkN_s h2] at e
    have ih := pkN_inj (n := n) (m := m) (fun i hi => hf i (by omega)) (fun i hi => hg i (by omega)) (by omega)
    obtain ⟨rfl, ih⟩ := ih
    refine ⟨rfl, fun i hi => ?_⟩
    by_cases c : i = n
    · subst c; omega
    · exact ih i (by omega)
theorem lN_inj {a c : Nat} (ha : a < 2 ^ 63) (hc : c < 2 ^ 63) : (lN a = lN c) = (a = c) := by
  refine propext ⟨fun e => ?_, fun e => by rw [e]⟩
  have := congrArg Int64.toInt e
  rw [lN_tI ha, lN_tI hc] at this
  omega
section MTO
variable {h : am_H} {b : bfT} {T : Tk} {e : Int × Int}
/-! behind an error nothing is done -/
theorem er_good (E : mo_er h e) : f_X12_isGood h = some (iI 0) := by
  unfold f_X12_isGood
  have := E.2.2
  simp (disch := omega) only [xI_le, xI_lt, xI_eq, xI_0, xI_ib, if_pos, if_neg, if_true, if_false, xI_cl, Int.toNat_natCast, iI_m, iI_a, iI_s, iI_1, xI_n, Option.bind_some, Int.natCast_add, Int.natCast_one, xI_zb, if_bI0, if_bI1, xI_rn, xI_ti, E.1]
theorem er_wrong (E : mo_er h e) {c : Int32} : f_X12_wrong c h = some h := by
  unfold f_X12_wrong
  have := E.2.2
  simp (disch := omega) only [xI_le, xI_lt, xI_eq, xI_0, xI_ib, if_pos, if_neg, if_true, if_false, xI_cl, Int.toNat_natCast, iI_m, iI_a, iI_s, iI_1, xI_n, Option.bind_some, Int.natCast_add, Int.natCast_one, xI_zb, if_bI0, if_bI1, xI_rn, xI_ti, E.1]
theorem er_isWord (E : mo_er h e) {w : Int64} : f_X12_isWord w h = some (iI 0) := by
  unfold f_X12_isWord
  have := E.2.2
  simp (disch := omega) only [xI_le, xI_lt, xI_eq, xI_0, xI_ib, if_pos, if_neg, if_true, if_false, xI_cl, Int.toNat_natCast, iI_m, iI_a, iI_s, iI_1, xI_n, Option.bind_some, Int.natCast_add, Int.natCast_one, xI_zb, if_bI0, if_bI1, xI_rn, xI_ti, E.1]
theorem er_isSign (E : mo_er h e) {c : Int32} : f_X12_isSign c h = some (iI 0) := by
  unfold f_X12_isSign
  have := E.2.2
  simp (disch := omega) only [xI_le, xI_lt, xI_eq, xI_0, xI_ib, if_pos, if_neg, if_true, if_false, xI_cl, Int.toNat_natCast, iI_m, iI_a, iI_s, iI_1, xI_n, Option.bind_some, Int.natCast_add, Int.natCast_one, xI_zb, if_bI0, if_bI1, xI_rn, xI_ti, E.1]
theorem er_looks (E : mo_er h e) {c d : Int32} : f_X12_looks c d h = some (h.1 (.inl 0) 0 7, h) := by
  unfold f_X12_looks f_X12_looks_20
  rw [er_good E, Option.bind_some, if_pos (by decide)]
  try rw [Option.bind_some, if_pos (by decide)]
theorem er_number (E : mo_er h e) {c d : Int32} : f_X12_number c d h = some (h.1 (.inl 0) 0 7, h) := by
  unfold f_X12_number
  rw [er_looks E, Option.bind_some]
  dsimp only
  rw [er_good E, Option.bind_some, if_pos (by decide)]
theorem er_mustSign (E : mo_er h e) {c : Int32} : f_X12_mustSign c h = some h := by
  unfold f_X12_mustSign
  rw [er_good E, Option.bind_some, if_pos (by decide)]
  try rw [Option.bind_some, if_pos (by decide)]
theorem er_mustBe (E : mo_er h e) : f_X12_mustBeWord h = some h := by
  unfold f_X12_mustBeWord
  rw [er_good E, Option.bind_some, if_pos (by decide)]
/-! without one -/
theorem m_good (R : mo_tk h b T) : f_X12_isGood h = some (iI 1) := by
  unfold f_X12_isGood
  simp (disch := omega) only [xI_le, xI_lt, xI_eq, xI_0, xI_ib, if_pos, if_neg, if_true, if_false, xI_cl, Int.toNat_natCast, iI_m, iI_a, iI_s, iI_1, xI_n, Option.bind_some, Int.natCast_add, Int.natCast_one, xI_zb, if_bI0, if_bI1, xI_rn, xI_ti, R.2.1]
theorem m_next (hb : bOk b) (hT : tk_ok b T) (R : mo_tk h b T) : ∃ h', f_X12_goOn h = some h' ∧ mo_tk h' b (tkA b T.2.2) ∧ TF h h' := by
  obtain ⟨h', e1, t, k⟩ := m_goOn hb R.1.1 hT.2.2.1 R.1.2.1
  exact ⟨h', e1, ⟨t, by rw [k 8 (by omega)]; exact R.2.1, by rw [k 9 (by omega)]; exact R.2.2⟩, fun j hj => k j (by omega), wr_X12_goOn e1⟩
theorem m_wrong (hT : tk_ok b T) (R : mo_tk h b T) {c : Int} (hc : 1 ≤ c ∧ c ≤ 5) : ∃ h', f_X12_wrong (iI c) h = some h' ∧ mo_er h' (if T.1 = 4 then 1 else c, (T.2.1 : Int)) ∧ TF h h' := by
  have t1 := hT.1
  have r6 := R.1.2.2.2.1
  refine ⟨am_u (am_u h (.inl 0) 0 8 (iI (if T.1 = 4 then 1 else c))) (.inl 0) 0 9 (iI T.2.1), ?_, ⟨?_, ?_, ?_⟩, fun j hj => by rw [au_s, if_neg (by omega), au_s, if_neg (by omega)], (Wr.u (by simp)).tr (Wr.u (by simp))⟩
  · unfold f_X12_wrong
    by_cases d : T.1 = 4
    · simp (disch := omega) only [xI_le, xI_lt, xI_eq, xI_0, xI_ib, if_pos, if_neg, if_true, if_false, xI_cl, Int.toNat_natCast, iI_m, iI_a, iI_s, iI_1, xI_n, Option.bind_some, Int.natCast_add, Int.natCast_one, xI_zb, if_bI0, if_bI1, xI_rn, xI_ti, R.2.1, r6, d, am_lt, au_s, R.1.2.2.1]
    · simp (disch := omega) only [xI_le, xI_lt, xI_eq, xI_0, xI_ib, if_pos, if_neg, if_true, if_false, xI_cl, Int.toNat_natCast, iI_m, iI_a, iI_s, iI_1, xI_n, Option.bind_some, Int.natCast_add, Int.natCast_one, xI_zb, if_bI0, if_bI1, xI_rn, xI_ti, R.2.1, r6, d, am_lt, au_s, R.1.2.2.1]
  · rw [au_s, if_neg (by omega), au_s, if_pos rfl]
  · rw [au_s, if_pos rfl]
  · show 1 ≤ (if T.1 = 4 then 1 else c) ∧ (if T.1 = 4 then 1 else c) ≤ 5
    split <;> omega
theorem m_isWord (hT : tk_ok b T) (R : mo_tk h b T) {t : Nat} (ht : t < 15) : f_X12_isWord (lN (txW t)) h = some (iI (bI (isW b T t = true))) := by
  have r6 := R.1.2.2.2.1
  have t1 := hT.1
  unfold f_X12_isWord
  by_cases d : T.1 = 1
  · have hw := R.1.2.2.2.2.1 d
    have hl := hT.2.2.2.2.2.1 d
    have h1 := pkN_b (f := wdF b T) (n := T.2.2 - T.2.1) (fun i hi => wdF_l hT d hi)
    have h2 := pw32 (n := T.2.2 - T.2.1) (by omega)
    have h3 := pkN_b (f := txC t) (n := (am_tx t).length) (tx_chr t ht)
    have h4 := pw32 (n := (am_tx t).length) (tx_len t ht).2
    rw [tx_pk t ht] at h3
    have hts := hT.2.1
    have e9 : (lg_cmp (h.2.1 (.inl 0) 0 12) (lN (txW t)) = 0) = (isW b T t = true) := by
      rw [lg_eq, hw, lN_inj (by omega) (by omega)]
      refine propext ⟨fun z => ?_, fun z => ?_⟩
      · rw [← tx_pk t ht] at z
        have q := pkN_inj (fun i hi => wdF_l hT d hi) (tx_chr t ht) z
        exact decide_eq_true ⟨d, by omega, fun i hi => q.2 i (by omega)⟩
      · have q := of_decide_eq_true z
        rw [← tx_pk t ht]
        have en : T.2.2 - T.2.1 = (am_tx t).length := by omega
        rw [en]
        have : ∀ n, n ≤ (am_tx t).length → pkN (wdF b T) n = pkN (txC t) n := fun n => by
          induction n with
          | zero => intro _; rfl
          | succ n ih =>
            intro hn
            have e1 : wdF b T n = txC t n := q.2.2 n (by omega)
            show (if wdF b T n = 0 then pkN (wdF b T) n else pkN (wdF b T) n * 32 + (wdF b T n - 96).toNat) = (if txC t n = 0 then pkN (txC t) n else pkN (txC t) n * 32 + (txC t n - 96).toNat)
            rw [e1, ih (by omega)]
        exact this _ (Nat.le_refl _)
    rw [R.2.1, if_pos (by rfl), r6, d, if_pos (by rfl)]
    by_cases c : isW b T t = true
    · rw [if_pos (by rw [e9]; exact c), show bI (isW b T t = true) = 1 from if_pos c]
    · rw [if_neg (by rw [e9]; exact c), show bI (isW b T t = true) = 0 from if_neg c]
  · rw [show bI (isW b T t = true) = 0 from if_neg (fun z => d (isW_1 z))]
    simp (disch := omega) only [xI_le, xI_lt, xI_eq, xI_0, xI_ib, if_pos, if_neg, if_true, if_false, xI_cl, Int.toNat_natCast, iI_m, iI_a, iI_s, iI_1, xI_n, Option.bind_some, Int.natCast_add, Int.natCast_one, xI_zb, if_bI0, if_bI1, xI_rn, xI_ti, R.2.1, r6]
theorem m_isSign (hb : bOk b) (hT : tk_ok b T) (R : mo_tk h b T) {c : Int} (hc : 0 ≤ c ∧ c ≤ 127) : f_X12_isSign (iI c) h = some (iI (bI (T.1 = 3 ∧ b.2 T.2.1 = c))) := by
  have r6 := R.1.2.2.2.1
  have t1 := hT.1
  have hb2 := hb.2 T.2.1
  unfold f_X12_isSign
  by_cases d : T.1 = 3
  · have r7 := R.1.2.2.2.2.2.2 d
    by_cases g : b.2 T.2.1 = c
    · rw [show bI (T.1 = 3 ∧ b.2 T.2.1 = c) = 1 from if_pos ⟨d, g⟩]
      simp (disch := omega) only [xI_le, xI_lt, xI_eq, xI_0, xI_ib, if_pos, if_neg, if_true, if_false, xI_cl, Int.toNat_natCast, iI_m, iI_a, iI_s, iI_1, xI_n, Option.bind_some, Int.natCast_add, Int.natCast_one, xI_zb, if_bI0, if_bI1, xI_rn, xI_ti, R.2.1, r6, r7]
    · rw [show bI (T.1 = 3 ∧ b.2 T.2.1 = c) = 0 from if_neg (fun z => g z.2)]
      simp (disch := omega) only [xI_le, xI_lt, xI_eq, xI_0, xI_ib, if_pos, if_neg, if_true, if_false, xI_cl, Int.toNat_natCast, iI_m, iI_a, iI_s, iI_1, xI_n, Option.bind_some, Int.natCast_add, Int.natCast_one, xI_zb, if_bI0, if_bI1, xI_rn, xI_ti, R.2.1, r6, r7]
  · rw [show bI (T.1 = 3 ∧ b.2 T.2.1 = c) = 0 from if_neg (fun z => d z.1)]
    simp (disch := omega) only [xI_le, xI_lt, xI_eq, xI_0, xI_ib, if_pos, if_neg, if_true, if_false, xI_cl, Int.toNat_natCast, iI_m, iI_a, iI_s, iI_1, xI_n, Option.bind_some, Int.natCast_add, Int.natCast_one, xI_zb, if_bI0, if_bI1, xI_rn, xI_ti, R.2.1, r6]
theorem m_mustSign (hb : bOk b) (hT : tk_ok b T) (R : mo_tk h b T) {c : Int} (hc : 0 ≤ c ∧ c ≤ 127) : mK (f_X12_mustSign (iI c) h) (sSign b T c) (TF h) (fun T' h' => mo_tk h' b T') := by
  have eg := m_good R
  have es := m_isSign hb hT R hc
  have z1 : ¬ (iI 1 : Int32) = 0 := by decide
  have z0 : (iI 0 : Int32) = 0 := by decide
  unfold sSign f_X12_mustSign
  rw [eg, Option.bind_some, if_neg z1, es, Option.bind_some]
  by_cases d : T.1 = 3 ∧ b.2 T.2.1 = c
  · obtain ⟨h', e1, t, k⟩ := m_next hb hT R
    rw [if_pos d, show bI (T.1 = 3 ∧ b.2 T.2.1 = c) = 1 from if_pos d, if_neg z1]
    refine ⟨h', ?_, t, k⟩
    rw [Option.bind_some, if_neg z1, e1, Option.bind_some]
  · obtain ⟨h', e1, t, k⟩ := m_wrong hT R (c := 1) (by omega)
    rw [if_neg d, show bI (T.1 = 3 ∧ b.2 T.2.1 = c) = 0 from if_neg d, if_pos z0]
    rw [show (if T.1 = 4 then (1 : Int) else 1) = 1 by split <;> rfl] at t
    refine ⟨h', ?_, t, k⟩
    rw [e1, Option.bind_some, er_good t, Option.bind_some, if_pos z0]
theorem m_number (hb : bOk b) (hT : tk_ok b T) (R : mo_tk h b T) {lo hi : Int} (hlo : 0 ≤ lo ∧ lo ≤ 999) (hhi : 0 ≤ hi ∧ hi ≤ 999) : mKn (f_X12_number (iI lo) (iI hi) h) (sNum b T lo hi) (TF h) (fun x y h' => y = iI x.1 ∧ mo_tk h' b x.2) := by
  have eg := m_good R
  have r6 := R.1.2.2.2.1
  have t1 := hT.1
  have z1 : ¬ (iI 1 : Int32) = 0 := by decide
  have z0 : (iI 0 : Int32) = 0 := by decide
  unfold sNum f_X12_number f_X12_looks f_X12_looks_20
  rw [eg, Option.bind_some, if_neg z1, r6]
  by_cases d : T.1 = 2
  · have r7 := R.1.2.2.2.2.2.1 d
    have hn := nvT_b hT d
    have ei : f_X12_isIn (iI (nvT b T)).toInt64 (iI lo).toInt64 (iI hi).toInt64 = some (iI (bI (lo ≤ nvT b T ∧ nvT b T ≤ hi))) := by
      rw [m_isIn, xL_i (by omega) (by omega), xL_i (by omega) (by omega), xL_i (by omega) (by omega)]
    rw [if_pos d, d, if_pos (by rfl), Option.bind_some, if_neg z1, r7, ei, Option.bind_some]
    by_cases g : lo ≤ nvT b T ∧ nvT b T ≤ hi
    · obtain ⟨h', e1, t, k⟩ := m_next hb hT R
      rw [if_pos g, show bI (lo ≤ nvT b T ∧ nvT b T ≤ hi) = 1 from if_pos g, if_neg z1, Option.bind_some]
      refine ⟨iI (nvT b T), h', ?_, ⟨rfl, t⟩, k⟩
      dsimp only
      rw [eg, Option.bind_some, if_neg z1, e1, Option.bind_some]
    · obtain ⟨h', e1, t, k⟩ := m_wrong hT R (c := 2) (by omega)
      rw [if_neg g, show bI (lo ≤ nvT b T ∧ nvT b T ≤ hi) = 0 from if_neg g, if_pos z0, e1, Option.bind_some, Option.bind_some]
      rw [if_neg (by omega)] at t
      refine ⟨h'.1 (.inl 0) 0 7, h', ?_, t, k⟩
      dsimp only
      rw [er_good t, Option.bind_some, if_pos z0]
  · obtain ⟨h', e1, t, k⟩ := m_wrong hT R (c := 1) (by omega)
    rw [show (if T.1 = 4 then (1 : Int) else 1) = 1 by split <;> rfl] at t
    rw [if_neg d, if_neg (by rw [xI_eq (by omega) (by omega) (by omega) (by omega)]; omega), e1, Option.bind_some, er_good t, Option.bind_some, if_pos z0, Option.bind_some]
    refine ⟨h'.1 (.inl 0) 0 7, h', ?_, t, k⟩
    dsimp only
    rw [er_good t, Option.bind_some, if_pos z0]
theorem m_mustBe (hT : tk_ok b T) (R : mo_tk h b T) : mK (f_X12_mustBeWord h) (if T.1 = 1 then (.inr () : Rs Unit) else .inl (1, (T.2.1 : Int))) (TF h) (fun _ h' => h' = h) := by
  have r6 := R.1.2.2.2.1
  have t1 := hT.1
  have z1 : ¬ (iI 1 : Int32) = 0 := by decide
  unfold f_X12_mustBeWord
  rw [m_good R, Option.bind_some, if_neg z1, r6]
  by_cases d : T.1 = 1
  · rw [if_pos d, d, if_pos (by rfl)]
    exact ⟨h, rfl, rfl, TF.rf⟩
  · obtain ⟨h', e1, t, k⟩ := m_wrong hT R (c := 1) (by omega)
    rw [show (if T.1 = 4 then (1 : Int) else 1) = 1 by split <;> rfl] at t
    rw [if_neg d, if_neg (by rw [xI_eq (by omega) (by omega) (by omega) (by omega)]; omega), e1, Option.bind_some]
    exact ⟨h', rfl, t, k⟩
theorem mK.adv (hb : bOk b) (hT : tk_ok b T) (R : mo_tk h b T) {t : Nat} (ht : t < 15) {w : Int64} (hw : w = lN (txW t)) {X : Type} {r : Rs X} {E : am_H → Prop} {Q : X → am_H → Prop} {k : Int32 → am_H → Option am_H} (H : ∀ h', mo_tk h' b (adW b T t) → TF h h' → mK (k (iI (bI (isW b T t = true))) h') r E Q) : mK ((f_X12_isWord w h).bind (fun a => if a = 0 then k a h else (f_X12_goOn h).bind (fun a2 => k a a2))) r E Q := by
  subst hw
  rw [m_isWord hT R ht, Option.bind_some]
  unfold adW at H
  by_cases c : isW b T t = true
  · obtain ⟨h', e1, t1, k1⟩ := m_next hb hT R
    rw [if_pos c, show bI (isW b T t = true) = 1 from if_pos c] at H
    rw [show bI (isW b T t = true) = 1 from if_pos c, if_neg (by decide), e1, Option.bind_some]
    exact H h' t1 k1
  · rw [if_neg c, show bI (isW b T t = true) = 0 from if_neg c] at H
    rw [show bI (isW b T t = true) = 0 from if_neg c, if_pos (by decide)]
    exact H h R TF.rf
theorem er_adW (E : mo_er h e) {w : Int64} {k : Int32 → am_H → Option am_H} : ((f_X12_isWord w h).bind (fun a => if a = 0 then k a h else (f_X12_goOn h).bind (fun a2 => k a a2))) = k (iI 0) h := by
  rw [er_isWord E, Option.bind_some, if_pos (by decide)]
theorem mKn.bind {X Y : Type} {o : Option (Int32 × am_H)} {r : Rs X} {E E' : am_H → Prop} {Q : X → Int32 → am_H → Prop} {Q' : Y → am_H → Prop} {s : X → Rs Y} {k : Int32 × am_H → Option am_H} (C : mKn o r E Q) (her : ∀ y h' e, mo_er h' e → E h' → ∃ h'', k (y, h') = some h'' ∧ mo_er h'' e ∧ E' h'') (H : ∀ x y h', r = .inr x → Q x y h' → E h' → mK (k (y, h')) (s x) E' Q') : mK (o.bind k) (r.bd s) E' Q' := by
  cases r with
  | inl e =>
    obtain ⟨y, h', e1, q, f⟩ := C
    obtain ⟨h'', e2, q2, f2⟩ := her y h' e q f
    exact ⟨h'', by rw [e1, Option.bind_some, e2], q2, f2⟩
  | inr x =>
    obtain ⟨y, h', e1, q, f⟩ := C
    rw [e1, Option.bind_some]
    exact H x y h' rfl q f
theorem mK.bind {X Y : Type} {o : Option am_H} {r : Rs X} {E E' : am_H → Prop} {Q : X → am_H → Prop} {Q' : Y → am_H → Prop} {s : X → Rs Y} {k : am_H → Option am_H} (C : mK o r E Q) (her : ∀ h' e, mo_er h' e → E h' → ∃ h'', k h' = some h'' ∧ mo_er h'' e ∧ E' h'') (H : ∀ x h', r = .inr x → Q x h' → E h' → mK (k h') (s x) E' Q') : mK (o.bind k) (r.bd s) E' Q' := by
  cases r with
  | inl e =>
    obtain ⟨h', e1, q, f⟩ := C
    obtain ⟨h'', e2, q2, f2⟩ := her h' e q f
    exact ⟨h'', by rw [e1, Option.bind_some, e2], q2, f2⟩
  | inr x =>
    obtain ⟨h', e1, q, f⟩ := C
    rw [e1, Option.bind_some]
    exact H x h' rfl q f
theorem mK.mono {X : Type} {o : Option am_H} {r : Rs X} {E E' : am_H → Prop} {Q Q' : X → am_H → Prop} (C : mK o r E Q) (hE : ∀ h', E h' → E' h') (hQ : ∀ x h', Q x h' → E h' → Q' x h') : mK o r E' Q' := by
  cases r with
  | inl e => obtain ⟨h', e1, q, f⟩ := C; exact ⟨h', e1, q, hE _ f⟩
  | inr x => obtain ⟨h', e1, q, f⟩ := C; exact ⟨h', e1, hQ _ _ q f, hE _ f⟩
end MTO
