/-! what is read, on both sides -/
theorem clC_r {f : am_H → Option (Int32 ⊕ Nat)} {h : am_H} {st : St} {o : Int32 ⊕ Nat} (e : f h = some o) (R : ClR h st) : clC (fun h => (f h).map (fun a => (a, h))) h st o := ⟨h, by show Option.map _ (f h) = _; rw [e]; rfl, R, MFr.rf⟩
theorem clC_w {f : am_H → Option ((Int32 ⊕ Nat) × am_H)} {h h1 : am_H} {st : St} {o : Int32 ⊕ Nat} {L : List (am_G × Nat)} (e : f h = some (o, h1)) (w : Wr L h h1) (n1 : L.all scrC = true) (n2 : L.all notM = true) (R : ClR h st) : clC f h st o := ⟨h1, e, ClR.wr w n1 R, w.MF n2⟩
theorem moC_c {m : am_H → Option (Int32 × am_H)} {h : am_H} {st : St} {o : Int32 ⊕ Nat} {f : Nat → Option Int32} {b c : Int32} (e : m h = some (b, am_u h (.inl 0) 0 0 c)) (R : MoR h st) (a : agr o f b c) : moC m h st o f := ⟨b, _, e, R.code, CFr.code, by rw [au_s, if_pos rfl]; exact a⟩
theorem moC_w {m : am_H → Option (Int32 × am_H)} {h h3 : am_H} {st : St} {o : Int32 ⊕ Nat} {f : Nat → Option Int32} {b c : Int32} {L : List (am_G × Nat)} (e : m h = some (b, h3)) (w : Wr L (am_u h (.inl 0) 0 0 c) h3) (n1 : L.all scrM = true) (n2 : L.all onM = true) (R : MoR h st) (a : agr o f b c) : moC m h st o f := by
  refine ⟨b, h3, e, MoR.wr w n1 R.code, CFr.code.tr (w.CF n2), ?_⟩
  rw [w.1 _ _ (fun z => by have := List.all_eq_true.mp n1 _ z; cases this), au_s, if_pos rfl]
  exact a
theorem m_isInz {n b : Int} {z : Int64} (hz : z.toInt = b) (hn : -2147483648 ≤ n ∧ n < 2147483648) : f_X12_isIn (iI n).toInt64 (0 : Int64) z = some (iI (bI (0 ≤ n ∧ n ≤ b))) := by
  rw [m_isIn, xL_i hn.1 hn.2, hz]
  rfl
section RDS
variable {h : am_H} {v : pv_T}
theorem m_isArc (hv : pv_ok v) (R : mo_pl h v) {i : Int} (hi : -2147483648 ≤ i ∧ i < 2147483648) : f_X12_isArc (iI i) h = some (iI (bI (0 ≤ i ∧ i ≤ (v.1 0 : Int) - 1))) := by
  have h8 := hv.1
  unfold f_X12_isArc
  simp (disch := omega) only [xI_le, xI_lt, xI_eq, xI_0, xI_ib, if_pos, if_neg, if_true, if_false, xI_cl, Int.toNat_natCast, iI_m, iI_a, iI_s, iI_1, xI_n, Option.bind_some, Int.natCast_add, Int.natCast_one, xI_zb, if_bI0, if_bI1, xI_rn, xI_ti, Int.toNat_zero, R.1.1, m_isInz (n := i) (b := (v.1 0 : Int) - 1) (xL_i (by omega) (by omega)) hi]
theorem m_isLetter0 (hv : pv_ok v) (R : mo_pl h v) {i : Int} (hi : -2147483648 ≤ i ∧ i < 2147483648) : f_X12_isLetter0 (iI i) h = some (iI (bI (0 ≤ i ∧ i ≤ (v.1 1 : Int) - 1))) := by
  have h8 := hv.1
  unfold f_X12_isLetter0
  simp (disch := omega) only [xI_le, xI_lt, xI_eq, xI_0, xI_ib, if_pos, if_neg, if_true, if_false, xI_cl, Int.toNat_natCast, iI_m, iI_a, iI_s, iI_1, xI_n, Option.bind_some, Int.natCast_add, Int.natCast_one, xI_zb, if_bI0, if_bI1, xI_rn, xI_ti, Int.toNat_one, R.1.2.1, m_isInz (n := i) (b := (v.1 1 : Int) - 1) (xL_i (by omega) (by omega)) hi]
theorem m_isRoom (hv : pv_ok v) (R : mo_pl h v) {i : Int} (hi : -2147483648 ≤ i ∧ i < 2147483648) : f_X12_isRoom (iI i) h = some (iI (bI (0 ≤ i ∧ i ≤ (v.1 1 : Int)))) := by
  have h8 := hv.1
  unfold f_X12_isRoom
  simp (disch := omega) only [xI_le, xI_lt, xI_eq, xI_0, xI_ib, if_pos, if_neg, if_true, if_false, xI_cl, Int.toNat_natCast, iI_m, iI_a, iI_s, iI_1, xI_n, Option.bind_some, Int.natCast_add, Int.natCast_one, xI_zb, if_bI0, if_bI1, xI_rn, xI_ti, Int.toNat_one, R.1.2.1, m_isInz (n := i) (b := (v.1 1 : Int)) (xL_i (by omega) (by omega)) hi]
theorem m_isKind (hv : pv_ok v) (R : mo_pl h v) {i : Int} (hi : -2147483648 ≤ i ∧ i < 2147483648) : f_X12_isKind (iI i) h = some (iI (bI (0 ≤ i ∧ i ≤ (v.1 2 : Int) - 1))) := by
  have h8 := hv.1
  unfold f_X12_isKind
  simp (disch := omega) only [xI_le, xI_lt, xI_eq, xI_0, xI_ib, if_pos, if_neg, if_true, if_false, xI_cl, Int.toNat_natCast, iI_m, iI_a, iI_s, iI_1, xI_n, Option.bind_some, Int.natCast_add, Int.natCast_one, xI_zb, if_bI0, if_bI1, xI_rn, xI_ti, show (2 : Int).toNat = 2 from rfl, R.1.2.2.1, m_isInz (n := i) (b := (v.1 2 : Int) - 1) (xL_i (by omega) (by omega)) hi]
theorem m_isScratch (hv : pv_ok v) (R : mo_pl h v) {i : Int} (hi : -2147483648 ≤ i ∧ i < 2147483648) : f_X12_isScratch (iI i) h = some (iI (bI (0 ≤ i ∧ i ≤ (v.1 3 : Int) - 1))) := by
  have h8 := hv.1
  unfold f_X12_isScratch
  simp (disch := omega) only [xI_le, xI_lt, xI_eq, xI_0, xI_ib, if_pos, if_neg, if_true, if_false, xI_cl, Int.toNat_natCast, iI_m, iI_a, iI_s, iI_1, xI_n, Option.bind_some, Int.natCast_add, Int.natCast_one, xI_zb, if_bI0, if_bI1, xI_rn, xI_ti, show (8 : Int).toNat = 8 from rfl, R.1.2.2.2.2.2.2.2.2, m_isInz (n := i) (b := (v.1 3 : Int) - 1) (xL_i (by omega) (by omega)) hi]
theorem m_isTurn (hv : pv_ok v) (R : mo_pl h v) {i : Int} (hi : -2147483648 ≤ i ∧ i < 2147483648) : f_X12_isTurn (iI i) h = some (iI (bI (0 ≤ i ∧ i ≤ pv_wT v))) := by
  have hw := pv_tW_b hv
  unfold f_X12_isTurn
  simp (disch := omega) only [xI_le, xI_lt, xI_eq, xI_0, xI_ib, if_pos, if_neg, if_true, if_false, xI_cl, Int.toNat_natCast, iI_m, iI_a, iI_s, iI_1, xI_n, Option.bind_some, Int.natCast_add, Int.natCast_one, xI_zb, if_bI0, if_bI1, xI_rn, xI_ti, m_wholeTurn hv R, m_isInz (n := i) (b := pv_wT v) (xL_i (by omega) (by omega)) hi]
theorem mo_code {x : Int32} (R : mo_pl h v) : mo_pl (am_u h (.inl 0) 0 0 x) v := R.eq (am_u_row (by simp))
abbrev ex1 : Nat → Option Int32 := fun e => match e with | 1 => some (iI 1) | _ => none
abbrev ex2 : Nat → Option Int32 := fun e => match e with | 2 => some (iI 1) | _ => none
abbrev ex0 : Nat → Option Int32 := fun e => match e with | 0 => some (iI 1) | _ => none
abbrev ex12 : Nat → Option Int32 := fun e => match e with | 1 => some (iI 2) | 2 => some (iI 1) | _ => none
abbrev ex02 : Nat → Option Int32 := fun e => match e with | 0 => some (iI 2) | 2 => some (iI 1) | _ => none
theorem agr1 {b : Int32} : agr (.inr 1) ex1 b (iI 1) := ⟨rfl, by decide⟩
theorem agr2 {b : Int32} : agr (.inr 2) ex2 b (iI 1) := ⟨rfl, by decide⟩
theorem agr0 {b : Int32} : agr (.inr 0) ex0 b (iI 1) := ⟨rfl, by decide⟩
theorem agr12a {b : Int32} : agr (.inr 2) ex12 b (iI 1) := ⟨rfl, by decide⟩
theorem agr12b {b : Int32} : agr (.inr 1) ex12 b (iI 2) := ⟨rfl, by decide⟩
theorem agr02a {b : Int32} : agr (.inr 2) ex02 b (iI 1) := ⟨rfl, by decide⟩
theorem agr02b {b : Int32} : agr (.inr 0) ex02 b (iI 2) := ⟨rfl, by decide⟩
theorem agrv {b : Int32} {f : Nat → Option Int32} : agr (.inl b) f b (iI 0) := ⟨rfl, rfl⟩
end RDS
theorem m_goes1 {h : am_H} : f_X12_goes (iI 1) h = some (iI 1, am_u h (.inl 0) 0 0 (iI 0)) := rfl
theorem m_goes0 {h : am_H} : f_X12_goes (iI 0) h = some (iI 0, am_u h (.inl 0) 0 0 (iI 1)) := rfl
theorem m_gB1 {h : am_H} : f_X12_goesBoth (iI 1) (iI 1) h = some (iI 1, am_u h (.inl 0) 0 0 (iI 0)) := @m_goesBoth True True _ _ h
theorem m_gB2 {h : am_H} : f_X12_goesBoth (iI 1) (iI 0) h = some (iI 0, am_u h (.inl 0) 0 0 (iI 2)) := @m_goesBoth True False _ _ h
theorem m_gB0 {h : am_H} {d : Prop} [Decidable d] : f_X12_goesBoth (iI 0) (iI (bI d)) h = some (iI 0, am_u h (.inl 0) 0 0 (iI 1)) := by
  have := @m_goesBoth False d _ _ h
  rw [show bI (False ∧ d) = 0 from if_neg (fun z => z.1)] at this
  exact this
theorem m_gB00 {h : am_H} : f_X12_goesBoth (iI 0) (iI 0) h = some (iI 0, am_u h (.inl 0) 0 0 (iI 1)) := @m_gB0 h False _
theorem m_gB01 {h : am_H} : f_X12_goesBoth (iI 0) (iI 1) h = some (iI 0, am_u h (.inl 0) 0 0 (iI 1)) := @m_gB0 h True _
section RDT
variable {h : am_H} {st : St}
/-! the turns, the parts -/
theorem cl_partsAt (ok : Ok st) (R : ClR h st) {t : Int} (ht : -2147483648 ≤ t ∧ t < 2147483648) : clC (fun h => (f_X11_partsAt (iI t) h).map (fun a => (a, h))) h st (if 0 ≤ t ∧ t ≤ pv_wT st.1 then .inl (iI (pv_pT st.1 t (st.1.1 0))) else .inr 1) := by
  have hv := ok.1.1
  have hw := pv_tW_b hv
  refine clC_r ?_ R
  unfold f_X11_partsAt
  by_cases c : 0 ≤ t ∧ t ≤ pv_wT st.1
  · simp (disch := omega) only [xI_le, xI_lt, xI_eq, xI_0, xI_ib, if_pos, if_neg, if_true, if_false, xI_cl, Int.toNat_natCast, iI_m, iI_a, iI_s, iI_1, xI_n, Option.bind_some, Int.natCast_add, Int.natCast_one, xI_zb, if_bI0, if_bI1, xI_rn, xI_ti, k_wholeTurn hv R.1.1, k_isWithin (n := t) (a := 0) (b := pv_wT st.1) (by omega) (by omega) (by omega), k_partsTo hv R.1.1 (t := t) (by omega)]
  · simp (disch := omega) only [xI_le, xI_lt, xI_eq, xI_0, xI_ib, if_pos, if_neg, if_true, if_false, xI_cl, Int.toNat_natCast, iI_m, iI_a, iI_s, iI_1, xI_n, Option.bind_some, Int.natCast_add, Int.natCast_one, xI_zb, if_bI0, if_bI1, xI_rn, xI_ti, k_wholeTurn hv R.1.1, k_isWithin (n := t) (a := 0) (b := pv_wT st.1) (by omega) (by omega) (by omega)]
theorem mo_partsAt (ok : Ok st) (R : MoR h st) {t : Int} (ht : -2147483648 ≤ t ∧ t < 2147483648) : moC (f_X12_partsAt (iI t)) h st (if 0 ≤ t ∧ t ≤ pv_wT st.1 then .inl (iI (pv_pT st.1 t (st.1.1 0))) else .inr 1) ex1 := by
  have hv := ok.1.1
  have hw := pv_tW_b hv
  by_cases c : 0 ≤ t ∧ t ≤ pv_wT st.1
  · rw [if_pos c]
    refine moC_c (c := iI 0) ?_ R agrv
    unfold f_X12_partsAt
    simp (disch := omega) only [xI_le, xI_lt, xI_eq, xI_0, xI_ib, if_pos, if_neg, if_true, if_false, xI_cl, Int.toNat_natCast, iI_m, iI_a, iI_s, iI_1, xI_n, Option.bind_some, Int.natCast_add, Int.natCast_one, xI_zb, if_bI0, if_bI1, xI_rn, xI_ti, m_isTurn hv R.1.1 ht, m_goes1, m_partsOf hv (mo_code R.1.1) c.1 c.2]
  · rw [if_neg c]
    refine moC_c (b := iI 0) (c := iI 1) ?_ R agr1
    unfold f_X12_partsAt
    simp (disch := omega) only [xI_le, xI_lt, xI_eq, xI_0, xI_ib, if_pos, if_neg, if_true, if_false, xI_cl, Int.toNat_natCast, iI_m, iI_a, iI_s, iI_1, xI_n, Option.bind_some, Int.natCast_add, Int.natCast_one, xI_zb, if_bI0, if_bI1, xI_rn, xI_ti, m_isTurn hv R.1.1 ht, m_goes0]
theorem cl_heading (ok : Ok st) (R : ClR h st) {t : Int} (ht : -2147483648 ≤ t ∧ t < 2147483648) : clC (fun h => (f_X11_heading (iI t) h).map (fun a => (a, h))) h st (if 0 ≤ t ∧ t ≤ pv_wT st.1 then .inl (iI (pv_bT st.1 t (st.1.1 0) % 3600)) else .inr 1) := by
  have hv := ok.1.1
  have hw := pv_tW_b hv
  refine clC_r ?_ R
  unfold f_X11_heading
  by_cases c : 0 ≤ t ∧ t ≤ pv_wT st.1
  · simp (disch := omega) only [xI_le, xI_lt, xI_eq, xI_0, xI_ib, if_pos, if_neg, if_true, if_false, xI_cl, Int.toNat_natCast, iI_m, iI_a, iI_s, iI_1, xI_n, Option.bind_some, Int.natCast_add, Int.natCast_one, xI_zb, if_bI0, if_bI1, xI_rn, xI_ti, k_wholeTurn hv R.1.1, k_isWithin (n := t) (a := 0) (b := pv_wT st.1) (by omega) (by omega) (by omega), k_headingTo hv R.1.1 (t := t) (by omega)]
  · simp (disch := omega) only [xI_le, xI_lt, xI_eq, xI_0, xI_ib, if_pos, if_neg, if_true, if_false, xI_cl, Int.toNat_natCast, iI_m, iI_a, iI_s, iI_1, xI_n, Option.bind_some, Int.natCast_add, Int.natCast_one, xI_zb, if_bI0, if_bI1, xI_rn, xI_ti, k_wholeTurn hv R.1.1, k_isWithin (n := t) (a := 0) (b := pv_wT st.1) (by omega) (by omega) (by omega)]
theorem mo_heading (ok : Ok st) (R : MoR h st) {t : Int} (ht : -2147483648 ≤ t ∧ t < 2147483648) : moC (f_X12_heading (iI t)) h st (if 0 ≤ t ∧ t ≤ pv_wT st.1 then .inl (iI (pv_bT st.1 t (st.1.1 0) % 3600)) else .inr 1) ex1 := by
  have hv := ok.1.1
  have hw := pv_tW_b hv
  by_cases c : 0 ≤ t ∧ t ≤ pv_wT st.1
  · rw [if_pos c]
    refine moC_c (c := iI 0) ?_ R agrv
    unfold f_X12_heading
    simp (disch := omega) only [xI_le, xI_lt, xI_eq, xI_0, xI_ib, if_pos, if_neg, if_true, if_false, xI_cl, Int.toNat_natCast, iI_m, iI_a, iI_s, iI_1, xI_n, Option.bind_some, Int.natCast_add, Int.natCast_one, xI_zb, if_bI0, if_bI1, xI_rn, xI_ti, m_isTurn hv R.1.1 ht, m_goes1, m_headingOf hv (mo_code R.1.1) (t := t) (by omega)]
  · rw [if_neg c]
    refine moC_c (b := iI 0) (c := iI 1) ?_ R agr1
    unfold f_X12_heading
    simp (disch := omega) only [xI_le, xI_lt, xI_eq, xI_0, xI_ib, if_pos, if_neg, if_true, if_false, xI_cl, Int.toNat_natCast, iI_m, iI_a, iI_s, iI_1, xI_n, Option.bind_some, Int.natCast_add, Int.natCast_one, xI_zb, if_bI0, if_bI1, xI_rn, xI_ti, m_isTurn hv R.1.1 ht, m_goes0]
theorem cl_turnAt (ok : Ok st) (R : ClR h st) {t : Int} (ht : -2147483648 ≤ t ∧ t < 2147483648) : clC (fun h => (f_X11_turnAt (iI t) h).map (fun a => (a, h))) h st (if 0 ≤ t ∧ t ≤ pv_wP st.1 then .inl (iI (pv_tW st.1 t)) else .inr 1) := by
  have hv := ok.1.1
  have hw := pv_wP_b hv
  refine clC_r ?_ R
  unfold f_X11_turnAt
  by_cases c : 0 ≤ t ∧ t ≤ pv_wP st.1
  · simp (disch := omega) only [xI_le, xI_lt, xI_eq, xI_0, xI_ib, if_pos, if_neg, if_true, if_false, xI_cl, Int.toNat_natCast, iI_m, iI_a, iI_s, iI_1, xI_n, Option.bind_some, Int.natCast_add, Int.natCast_one, xI_zb, if_bI0, if_bI1, xI_rn, xI_ti, k_wholeParts hv R.1.1, k_isWithin (n := t) (a := 0) (b := pv_wP st.1) (by omega) (by omega) (by omega), k_turnWithin hv R.1.1 (q := t) (by omega)]
  · simp (disch := omega) only [xI_le, xI_lt, xI_eq, xI_0, xI_ib, if_pos, if_neg, if_true, if_false, xI_cl, Int.toNat_natCast, iI_m, iI_a, iI_s, iI_1, xI_n, Option.bind_some, Int.natCast_add, Int.natCast_one, xI_zb, if_bI0, if_bI1, xI_rn, xI_ti, k_wholeParts hv R.1.1, k_isWithin (n := t) (a := 0) (b := pv_wP st.1) (by omega) (by omega) (by omega)]
theorem pv_pA_mono {v : pv_T} (hv : pv_ok v) {i j : Nat} (h : i ≤ j) (hj : j ≤ v.1 0) : pv_pA v i ≤ pv_pA v j := sI_mono h (fun q hq => by
  have := hv.2.1 q (by omega)
  exact Int.mul_nonneg (by omega) (by omega))
/-- the parts up to a turn, without looking for its arc -/
theorem pv_pT_in {v : pv_T} (hv : pv_ok v) {t : Int} {a : Nat} (ha : a < v.1 0) (h1 : pv_tA v a ≤ t) (h2 : t ≤ pv_tA v (a + 1)) : pv_pT v t (v.1 0) = pv_pA v a + v.2 1 a * (t - pv_tA v a) := by
  have hw : t ≤ pv_wT v := Int.le_trans h2 (pv_tA_mono hv (by omega) (Nat.le_refl _))
  have h0 : 0 ≤ t := Int.le_trans (pv_tA_b hv (by omega)).1 h1
  by_cases c : t < pv_tA v (a + 1) ∨ a + 1 = v.1 0
  · exact pv_pT_at hv h0 hw ha h1 c
  · have e : t = pv_tA v (a + 1) := by omega
    have hc := hv.2.1 (a + 1) (by omega)
    have h3 := pv_pT_at hv h0 hw (a := a + 1) (by omega) (by omega) (by rw [pv_tA_s v (a + 1)]; omega)
    rw [h3, e, Int.sub_self, Int.mul_zero, Int.add_zero, pv_pA_s, pv_tA_s, show pv_tA v a + 10 * v.2 2 a - pv_tA v a = 10 * v.2 2 a by omega]
/-- the turn of so many parts is the greatest one that has at most so many -/
theorem pv_tW_at {v : pv_T} (hv : pv_ok v) {q : Int} (h0 : 0 ≤ q) (hq : q ≤ pv_wP v) : 0 ≤ pv_tW v q ∧ pv_tW v q ≤ pv_wT v ∧ pv_pT v (pv_tW v q) (v.1 0) ≤ q ∧ ∀ t, pv_tW v q < t → t ≤ pv_wT v → q < pv_pT v t (v.1 0) := by
  have hm := pv_fst_le (fun i => decide (q < pv_pA v (i + 1))) (v.1 0) 0
  have hat := pv_fst_at (fun i => decide (q < pv_pA v (i + 1))) (v.1 0) 0
  have hlt := pv_fst_lt (fun i => decide (q < pv_pA v (i + 1))) (v.1 0) 0
  have hw := pv_tW_b hv
  unfold pv_tW
  generalize pv_fst (fun i => decide (q < pv_pA v (i + 1))) (v.1 0) 0 = m at hm hat hlt ⊢
  simp only [decide_eq_true_eq, decide_eq_false_iff_not] at hat hlt
  by_cases hmn : m < v.1 0
  · rw [if_pos hmn]
    have hc := hat (by omega)
    have hr := hv.2.1 m hmn
    have hlow : pv_pA v m ≤ q := by
      cases m with
      | zero => exact h0
      | succ m => have := hlt m (by omega) (by omega); omega
    rw [pv_pA_s] at hc
    have hta := pv_tA_b hv (n := m) (by omega)
    have hts := pv_tA_s v m
    have htw := pv_tA_mono hv (i := m + 1) (j := v.1 0) (by omega) (Nat.le_refl _)
    have d1 : 0 ≤ (q - pv_pA v m) / v.2 1 m := Int.ediv_nonneg (by omega) (by omega)
    have d2 : (q - pv_pA v m) / v.2 1 m < 10 * v.2 2 m := Int.ediv_lt_of_lt_mul (by omega) (by rw [Int.mul_comm]; omega)
    have d3 : v.2 1 m * ((q - pv_pA v m) / v.2 1 m) ≤ q - pv_pA v m := Int.mul_ediv_self_le (by omega)
    have d4 : q - pv_pA v m < v.2 1 m * ((q - pv_pA v m) / v.2 1 m + 1) := by
      have := Int.lt_mul_ediv_self_add (x := q - pv_pA v m) (k := v.2 1 m) (by omega)
      rw [Int.mul_add, Int.mul_one]
      exact this
    generalize (q - pv_pA v m) / v.2 1 m = d at d1 d2 d3 d4 ⊢
    have e0 : pv_tA v (v.1 0) = pv_wT v := rfl
    refine ⟨by omega, by omega, ?_, fun t h1 h2 => ?_⟩
    · rw [pv_pT_in hv hmn (by omega) (by omega), show pv_tA v m + d - pv_tA v m = d by omega]
      omega
    · by_cases c : t ≤ pv_tA v (m + 1)
      · rw [pv_pT_in hv hmn (by omega) c]
        have : v.2 1 m * (d + 1) ≤ v.2 1 m * (t - pv_tA v m) := Int.mul_le_mul_of_nonneg_left (by omega) (by omega)
        omega
      · obtain ⟨a, -, ha, ha1, ha2, -⟩ := pv_ar_at (v := v) (t := t) (by omega) (by omega)
        have ham : m + 1 ≤ a := by
          refine Nat.not_lt.mp (fun z => ?_)
          rcases ha2 with ha2 | ha2
          · have := pv_tA_mono hv (i := a + 1) (j := m + 1) (by omega) (by omega)
            omega
          · have e9 : a = m := by omega
            subst e9
            rw [ha2, e0] at c
            exact c h2
        rw [pv_pT_at hv (by omega) h2 ha ha1 ha2]
        have h9 := pv_pA_mono hv (i := m + 1) (j := a) ham (by omega)
        rw [pv_pA_s] at h9
        have h10 : 0 ≤ v.2 1 a * (t - pv_tA v a) := Int.mul_nonneg (by have := hv.2.1 a ha; omega) (by omega)
        omega
  · rw [if_neg hmn]
    have e : m = v.1 0 := by omega
    refine ⟨hw.1, Int.le_refl _, ?_, fun t h1 h2 => absurd h1 (by omega)⟩
    by_cases hn : 0 < v.1 0
    · have hl := hlt (v.1 0 - 1) (by omega) (by omega)
      rw [show v.1 0 - 1 + 1 = v.1 0 by omega] at hl
      have hp := pv_pT_in hv (t := pv_wT v) (a := v.1 0 - 1) (by omega) (pv_tA_mono hv (by omega) (Nat.le_refl _)) (by rw [show v.1 0 - 1 + 1 = v.1 0 by omega]; exact Int.le_refl _)
      have s1 := pv_tA_s v (v.1 0 - 1)
      have s2 := pv_pA_s v (v.1 0 - 1)
      rw [show v.1 0 - 1 + 1 = v.1 0 by omega] at s1 s2
      have e1 : pv_wT v - pv_tA v (v.1 0 - 1) = 10 * v.2 2 (v.1 0 - 1) := by show pv_tA v (v.1 0) - _ = _; omega
      rw [hp, e1]
      omega
    · have e0 : v.1 0 = 0 := by omega
      rw [e0]
      exact h0
theorem mo_turnAt (ok : Ok st) (R : MoR h st) {q : Int} (hq : -2147483648 ≤ q ∧ q < 2147483648) : moC (f_X12_turnAt (iI q)) h st (if 0 ≤ q ∧ q ≤ pv_wP st.1 then .inl (iI (pv_tW st.1 q)) else .inr 1) ex1 := by
  have hv := ok.1.1
  have hw := pv_wP_b hv
  have ht := pv_tW_b hv
  by_cases c : 0 ≤ q ∧ q ≤ pv_wP st.1
  · rw [if_pos c]
    refine moC_c (c := iI 0) ?_ R agrv
    obtain ⟨t1, t2, t3, t4⟩ := pv_tW_at hv c.1 c.2
    generalize eW : pv_tW st.1 q = w at t1 t2 t3 t4 ⊢
    have Rc : mo_pl (am_u h (.inl 0) 0 0 (iI 0)) st.1 := mo_code R.1.1
    have s := ch_to (fun i : Nat => f_X12_turnAt_25 (iI q) (iI (pv_wT st.1 - i)) (am_u h (.inl 0) 0 0 (iI 0))) (Nat.zero_le (pv_wT st.1 - w).toNat) (fun i _ hi => by
      show f_X12_turnAt_25 _ _ _ = f_X12_turnAt_25 _ _ _
      have hb := pv_pT_b hv (t := pv_wT st.1 - i) (Nat.le_refl (st.1.1 0))
      have hl := t4 (pv_wT st.1 - i) (by omega) (by omega)
      rw [e_X12_turnAt_25]
      simp (disch := omega) only [xI_le, xI_lt, xI_eq, xI_0, xI_ib, if_pos, if_neg, if_true, if_false, xI_cl, Int.toNat_natCast, iI_m, iI_a, iI_s, iI_1, xI_n, Option.bind_some, Int.natCast_add, Int.natCast_one, xI_zb, if_bI0, if_bI1, xI_rn, xI_ti, m_partsOf hv Rc (t := pv_wT st.1 - i) (by omega) (by omega), show pv_wT st.1 - (i : Int) + -1 = pv_wT st.1 - ((i : Int) + 1) from by omega])
    have e9 : pv_wT st.1 - ((pv_wT st.1 - w).toNat : Int) = w := by omega
    unfold f_X12_turnAt
    have hb := pv_pT_b hv (t := w) (Nat.le_refl (st.1.1 0))
    simp (disch := omega) only [xI_le, xI_lt, xI_eq, xI_0, xI_ib, if_pos, if_neg, if_true, if_false, xI_cl, Int.toNat_natCast, iI_m, iI_a, iI_s, iI_1, xI_n, Option.bind_some, Int.natCast_add, Int.natCast_one, xI_zb, if_bI0, if_bI1, xI_rn, xI_ti, m_wholeParts hv R.1.1, m_isInz (n := q) (b := pv_wP st.1) (xL_i (by omega) (by omega)) hq, m_goes1, m_wholeTurn hv Rc]
    refine Eq.trans (congrArg (fun z => f_X12_turnAt_25 (iI q) (iI z) (am_u h (.inl 0) 0 0 (iI 0))) (show pv_wT st.1 = pv_wT st.1 - ((0 : Nat) : Int) by omega)) (Eq.trans s ?_)
    show f_X12_turnAt_25 (iI q) (iI (pv_wT st.1 - ((pv_wT st.1 - w).toNat : Int))) _ = _
    rw [e9, e_X12_turnAt_25]
    simp (disch := omega) only [xI_le, xI_lt, xI_eq, xI_0, xI_ib, if_pos, if_neg, if_true, if_false, xI_cl, Int.toNat_natCast, iI_m, iI_a, iI_s, iI_1, xI_n, Option.bind_some, Int.natCast_add, Int.natCast_one, xI_zb, if_bI0, if_bI1, xI_rn, xI_ti, m_partsOf hv Rc (t := w) (by omega) (by omega)]
  · rw [if_neg c]
    refine moC_c (b := iI 0) (c := iI 1) ?_ R agr1
    unfold f_X12_turnAt
    simp (disch := omega) only [xI_le, xI_lt, xI_eq, xI_0, xI_ib, if_pos, if_neg, if_true, if_false, xI_cl, Int.toNat_natCast, iI_m, iI_a, iI_s, iI_1, xI_n, Option.bind_some, Int.natCast_add, Int.natCast_one, xI_zb, if_bI0, if_bI1, xI_rn, xI_ti, m_wholeParts hv R.1.1, m_isInz (n := q) (b := pv_wP st.1) (xL_i (by omega) (by omega)) hq, m_goes0]
end RDT
