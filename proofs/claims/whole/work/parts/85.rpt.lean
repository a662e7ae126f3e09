/-! the report -/
def rpH (v : pv_T) (k : Nat) (b : rpT) : rpT := if pv_iS v k then rpA (rpA b (v.2 5 k + (if v.2 6 k = 0 then 97 else 65))) 33 else rpA b (v.2 5 k + (if v.2 6 k = 0 then 97 else 65))
abbrev csL (v : pv_T) (k : Nat) : Nat := cN (fun j => decide (v.2 12 j = (k : Int))) (v.1 3)
def rpLt (v : pv_T) (k : Nat) (b : rpT) : rpT := rpS (csL v k) (rpH v k b)
def rpF (v : pv_T) (F : Nat → Int) (k : Nat) (b : rpT) : rpT := if F k = -1 then b else rpN (nmf v (F k).toNat) b
def rpR (v : pv_T) (F : Nat → Int) : Nat → rpT
  | 0 => (0, fun _ => 0)
  | k + 1 => if k < v.1 1 then rpLt v k (rpF v F k (rpR v F k)) else rpF v F k (rpR v F k)
theorem rpR_t {v : pv_T} {F : Nat → Int} {k : Nat} (h : k < v.1 1) : rpR v F (k + 1) = rpLt v k (rpF v F k (rpR v F k)) := if_pos h
theorem rpR_f {v : pv_T} {F : Nat → Int} {k : Nat} (h : ¬ k < v.1 1) : rpR v F (k + 1) = rpF v F k (rpR v F k) := if_neg h
/-- scratches of the first m letters -/
def cF (f : Nat → Int) (n : Nat) : Nat → Nat
  | 0 => 0
  | m + 1 => cF f n m + cN (fun j => decide (f j = (m : Int))) n
theorem cF_s {f : Nat → Int} {n : Nat} : ∀ m, cF f (n + 1) m = cF f n m + (if 0 ≤ f n ∧ f n < (m : Int) then 1 else 0)
  | 0 => by show 0 = 0 + _; rw [if_neg (by omega)]
  | m + 1 => by
    show cF f (n + 1) m + cN (fun j => decide (f j = (m : Int))) (n + 1) = cF f n m + cN (fun j => decide (f j = (m : Int))) n + _
    rw [cF_s m]
    by_cases c : f n = (m : Int)
    · rw [cN_t (decide_eq_true c), if_neg (by omega), if_pos (by omega)]; omega
    · rw [cN_f (decide_eq_false c)]
      by_cases d : 0 ≤ f n ∧ f n < (m : Int)
      · rw [if_pos d, if_pos (by omega)]; omega
      · rw [if_neg d, if_neg (by omega)]; omega
theorem cF_le {f : Nat → Int} {m : Nat} : ∀ n, cF f n m ≤ n
  | 0 => by
    have : ∀ m, cF f 0 m = 0 := fun m => by
      induction m with
      | zero => rfl
      | succ m ih => show cF f 0 m + 0 = 0; omega
    rw [this m]; exact Nat.le_refl 0
  | n + 1 => by
    have := cF_le (f := f) (m := m) n
    rw [cF_s m]
    split <;> omega
theorem rpH_1 {v : pv_T} {k : Nat} {b : rpT} : (rpH v k b).1 ≤ b.1 + 2 := by
  unfold rpH
  split
  · show b.1 + 1 + 1 ≤ _; omega
  · show b.1 + 1 ≤ _; omega
theorem rpN_1 {v : pv_T} {q : Nat} {b : rpT} (hv : pvA v) (hq : q < v.1 2) : (rpN (nmf v q) b).1 ≤ b.1 + 10 := by
  obtain ⟨n, h8, hl, hz, -, h1⟩ := nm_len hv hq
  unfold rpN
  rw [nln_eq h8 hl hz]
  show (rpL (nmf v q) n (rpA b 40)).1 + 1 ≤ _
  rw [rpL_1]
  show b.1 + 1 + n + 1 ≤ _
  omega
theorem rpF_1 {v : pv_T} {F : Nat → Int} {k : Nat} {b : rpT} (hv : pvA v) (hF : -1 ≤ F k ∧ F k < v.1 2) : (rpF v F k b).1 ≤ b.1 + 10 := by
  unfold rpF
  split
  · omega
  · exact rpN_1 hv (by omega)
theorem rpR_1 {v : pv_T} {F : Nat → Int} (hv : pvA v) (hF : ∀ i, -1 ≤ F i ∧ F i < v.1 2) : ∀ k, k ≤ v.1 1 → (rpR v F k).1 ≤ 12 * k + cF (v.2 12) (v.1 3) k
  | 0, _ => Nat.zero_le _
  | k + 1, hk => by
    have h1 := rpR_1 hv hF k (by omega)
    have h2 := rpF_1 (b := rpR v F k) hv (hF k)
    have h3 := rpH_1 (v := v) (k := k) (b := rpF v F k (rpR v F k))
    rw [rpR_t (by omega)]
    unfold rpLt
    rw [rpS_1]
    show _ ≤ 12 * (k + 1) + (cF (v.2 12) (v.1 3) k + csL v k)
    omega
theorem rpH_ok {v : pv_T} {k : Nat} {b : rpT} (hv : pv_ok v) (hk : k < v.1 1) (hb : rp_ok b) : rp_ok (rpH v k b) := by
  have g := hv.2.2.1 k hk
  have h1 : rp_ok (rpA b (v.2 5 k + (if v.2 6 k = 0 then 97 else 65))) := rpA_ok hb (by split <;> omega)
  unfold rpH
  split
  · exact rpA_ok h1 (by omega)
  · exact h1
theorem rpF_ok {v : pv_T} {F : Nat → Int} {k : Nat} {b : rpT} (hv : pvA v) (hF : -1 ≤ F k ∧ F k < v.1 2) (hb : rp_ok b) : rp_ok (rpF v F k b) := by
  unfold rpF
  split
  · exact hb
  · obtain ⟨n, h8, hl, hz, -, h1⟩ := nm_len hv (q := (F k).toNat) (by omega)
    unfold rpN
    rw [nln_eq h8 hl hz]
    exact rpA_ok (rpL_ok (rpA_ok hb (by omega)) n hl) (by omega)
theorem rpR_ok {v : pv_T} {F : Nat → Int} (hv : pvA v) (hF : ∀ i, -1 ≤ F i ∧ F i < v.1 2) : ∀ k, rp_ok (rpR v F k)
  | 0 => fun i => ⟨Int.le_refl 0, by show (0 : Int) ≤ 127; omega⟩
  | k + 1 => by
    have h1 := rpF_ok hv (hF k) (rpR_ok hv hF k)
    by_cases c : k < v.1 1
    · rw [rpR_t c]; exact rpS_ok (rpH_ok hv.1 c h1) _
    · rw [rpR_f c]; exact h1
section RPT
variable {h : am_H} {st : St} {v : pv_T} {b : rpT}
theorem k_stars {n : Nat} (hb : b.1 + n ≤ 294) (R : cl_rp h b) : ∃ h', f_X6_putLetter_56 0 (iI n) (iI 0) h = some h' ∧ cl_rp h' (rpS n b) := by
  obtain ⟨s, e2, R2⟩ := ch_rel (fun i s => f_X6_putLetter_56 0 (iI n) (iI i) s) (fun i s => cl_rp s (rpS i b)) (n := n) (fun i s hi p => by
    obtain ⟨s', e', R'⟩ := k_put (x := 42) (by rw [rpS_1]; omega) (by omega) p
    refine ⟨s', ?_, R'⟩
    show f_X6_putLetter_56 _ _ _ _ = f_X6_putLetter_56 _ _ _ _
    rw [e_X6_putLetter_56]
    simp (disch := omega) only [xI_le, xI_lt, xI_eq, xI_0, xI_ib, if_pos, if_neg, if_true, if_false, xI_cl, Int.toNat_natCast, iI_m, iI_a, iI_s, iI_1, xI_n, Option.bind_some, Int.natCast_add, Int.natCast_one, xI_zb, if_bI0, if_bI1, xI_rn, xI_ti, e']) (s0 := h) R
  refine ⟨s, Eq.trans e2 ?_, R2⟩
  show f_X6_putLetter_56 _ _ _ _ = _
  rw [e_X6_putLetter_56]
  simp (disch := omega) only [xI_le, xI_lt, xI_eq, xI_0, xI_ib, if_pos, if_neg, if_true, if_false, xI_cl, Int.toNat_natCast, iI_m, iI_a, iI_s, iI_1, xI_n, Option.bind_some, Int.natCast_add, Int.natCast_one, xI_zb, if_bI0, if_bI1, xI_rn, xI_ti]
theorem k_putLetter {k : Nat} (hv : pv_ok v) (hk : k < v.1 1) (P : cl_pl h 0 v) (hb : b.1 + 2 + csL v k ≤ 294) (R : cl_rp h b) : ∃ h', f_X6_putLetter 0 (iI k) (iI (bI (pv_iS v k))) h = some h' ∧ cl_rp h' (rpLt v k b) := by
  have h8 := hv.1
  have g := hv.2.2.1 k hk
  obtain ⟨q7, q8, -⟩ := P.2.1.2.1 k hk
  obtain ⟨h1, e1, R1⟩ := k_put (x := v.2 5 k + (if v.2 6 k = 0 then 97 else 65)) (by omega) (by split <;> omega) R
  have w1 := wr_X6_put e1
  have hcs : csL v k ≤ 44 := Nat.le_trans (cN_le _ _) h8.2.2.2
  have hc : ∀ s, Wr LR h s → f_X7_countOf 0 (iI k) s = some (iI (csL v k)) := fun s w => k_countOf hv (P.2.2.2.2.1.eq (w.P (by simp))) (l := (k : Int)) (by omega)
  have e20 : ∀ y : Int, y = (if v.2 6 k = 0 then 97 else 65) → ∃ h', f_X6_putLetter_20 0 (iI k) (iI (bI (pv_iS v k))) (iI y) h = some h' ∧ cl_rp h' (rpLt v k b) := fun y hy => by
    rw [← hy] at e1 R1
    have e1' : f_X6_put (iI (y + v.2 5 k)) h = some h1 := by rw [Int.add_comm]; exact e1
    unfold rpLt rpH
    rw [← hy]
    by_cases c : pv_iS v k
    · rw [if_pos c, show bI (pv_iS v k) = 1 from if_pos c]
      obtain ⟨h2, e2, R2⟩ := k_put (x := 33) (by show b.1 + 1 < 294; omega) (by omega) R1
      have w2 := w1.tr (wr_X6_put e2)
      obtain ⟨h3, e3, R3⟩ := k_stars (n := csL v k) (by show b.1 + 1 + 1 + csL v k ≤ 294; omega) R2
      refine ⟨h3, ?_, R3⟩
      have hcc := hc h2 w2
      generalize csL v k = cs at *
      rw [e_X6_putLetter_20]
      simp (disch := omega) only [xI_le, xI_lt, xI_eq, xI_0, xI_ib, if_pos, if_neg, if_true, if_false, xI_cl, Int.toNat_natCast, iI_m, iI_a, iI_s, iI_1, xI_n, Option.bind_some, Int.natCast_add, Int.natCast_one, xI_zb, if_bI0, if_bI1, xI_rn, xI_ti, q7, e1', e2, hcc, e3]
    · rw [if_neg c, show bI (pv_iS v k) = 0 from if_neg c]
      obtain ⟨h3, e3, R3⟩ := k_stars (n := csL v k) (by show b.1 + 1 + csL v k ≤ 294; omega) R1
      refine ⟨h3, ?_, R3⟩
      have hcc := hc h1 w1
      generalize csL v k = cs at *
      rw [e_X6_putLetter_20]
      simp (disch := omega) only [xI_le, xI_lt, xI_eq, xI_0, xI_ib, if_pos, if_neg, if_true, if_false, xI_cl, Int.toNat_natCast, iI_m, iI_a, iI_s, iI_1, xI_n, Option.bind_some, Int.natCast_add, Int.natCast_one, xI_zb, if_bI0, if_bI1, xI_rn, xI_ti, q7, e1', hcc, e3]
  by_cases c : v.2 6 k = 0
  · obtain ⟨h', e', R'⟩ := e20 97 (by rw [if_pos c])
    refine ⟨h', ?_, R'⟩
    unfold f_X6_putLetter
    rw [c] at q8
    simp (disch := omega) only [xI_le, xI_lt, xI_eq, xI_0, xI_ib, if_pos, if_neg, if_true, if_false, xI_cl, Int.toNat_natCast, iI_m, iI_a, iI_s, iI_1, xI_n, Option.bind_some, Int.natCast_add, Int.natCast_one, xI_zb, if_bI0, if_bI1, xI_rn, xI_ti, q8, e']
  · obtain ⟨h', e', R'⟩ := e20 65 (by rw [if_neg c])
    refine ⟨h', ?_, R'⟩
    unfold f_X6_putLetter
    simp (disch := omega) only [xI_le, xI_lt, xI_eq, xI_0, xI_ib, if_pos, if_neg, if_true, if_false, xI_cl, Int.toNat_natCast, iI_m, iI_a, iI_s, iI_1, xI_n, Option.bind_some, Int.natCast_add, Int.natCast_one, xI_zb, if_bI0, if_bI1, xI_rn, xI_ti, q8, e']
theorem m_tellLetter {k : Nat} (hv : pv_ok v) (hk : k < v.1 1) (P : mo_pl h v) (hb : b.1 + 2 + csL v k ≤ 400) (R : mo_rp h b) : ∃ h', f_X12_tellLetter (iI k) h = some h' ∧ mo_rp h' (rpLt v k b) ∧ ∀ j, j ≠ 35 → h'.1 (.inl 0) 0 j = h.1 (.inl 0) 0 j := by
  have h8 := hv.1
  have g := hv.2.2.1 k hk
  have hcs : csL v k ≤ 44 := Nat.le_trans (cN_le _ _) h8.2.2.2
  have hP : ∀ s, Wr MR h s → mo_pl s v := fun s w => P.eq (w.1 _ _ (by simp))
  have hst : ∀ (s : am_H) (b1 : rpT), Wr MR h s → b1.1 + csL v k ≤ 400 → mo_rp s b1 → ∃ h', f_X12_tellLetter_42 (iI k) (iI 0) s = some h' ∧ mo_rp h' (rpS (csL v k) b1) ∧ ∀ j, j ≠ 35 → h'.1 (.inl 0) 0 j = s.1 (.inl 0) 0 j := fun s b1 ws hb1 Rs => by
    obtain ⟨t, e2, R2, w2, z2⟩ := ch_rel (fun i t => f_X12_tellLetter_42 (iI k) (iI i) t) (fun i t => mo_rp t (rpS i b1) ∧ Wr MR h t ∧ ∀ j, j ≠ 35 → t.1 (.inl 0) 0 j = s.1 (.inl 0) 0 j) (n := csL v k) (fun i t hi p => by
      obtain ⟨p, w, z⟩ := p
      obtain ⟨s', e', R', z'⟩ := m_tell (x := 42) (by rw [rpS_1]; omega) p
      refine ⟨s', ?_, R', w.tr (wr_X12_tell e'), fun j hj => (z' j hj).trans (z j hj)⟩
      show f_X12_tellLetter_42 _ _ _ = f_X12_tellLetter_42 _ _ _
      have ec : f_X12_scratchesOf (iI k) t = some (iI (csL v k)) := m_scratchesOf hv (hP t w) (l := (k : Int)) (by omega)
      generalize csL v k = cs at *
      rw [e_X12_tellLetter_42]
      simp (disch := omega) only [xI_le, xI_lt, xI_eq, xI_0, xI_ib, if_pos, if_neg, if_true, if_false, xI_cl, Int.toNat_natCast, iI_m, iI_a, iI_s, iI_1, xI_n, Option.bind_some, Int.natCast_add, Int.natCast_one, xI_zb, if_bI0, if_bI1, xI_rn, xI_ti, ec, e']) (s0 := s) ⟨Rs, ws, fun _ _ => rfl⟩
    refine ⟨t, Eq.trans e2 ?_, R2, z2⟩
    show f_X12_tellLetter_42 _ _ _ = _
    have ec : f_X12_scratchesOf (iI k) t = some (iI (csL v k)) := m_scratchesOf hv (hP t w2) (l := (k : Int)) (by omega)
    generalize csL v k = cs at *
    rw [e_X12_tellLetter_42]
    simp (disch := omega) only [xI_le, xI_lt, xI_eq, xI_0, xI_ib, if_pos, if_neg, if_true, if_false, xI_cl, Int.toNat_natCast, iI_m, iI_a, iI_s, iI_1, xI_n, Option.bind_some, Int.natCast_add, Int.natCast_one, xI_zb, if_bI0, if_bI1, xI_rn, xI_ti, ec]
  obtain ⟨h1, e1, R1, z1⟩ := m_tell (x := v.2 5 k + (if v.2 6 k = 0 then 97 else 65)) (by omega) R
  have w1 : Wr MR h h1 := wr_X12_tell e1
  have eS := m_isSpoiled hv (hP h1 w1) (l := (k : Int)) (by omega)
  have e22 : ∀ y : Int, y = (if v.2 6 k = 0 then 97 else 65) → ∃ h', f_X12_tellLetter_22 (iI k) (iI (v.2 5 k)) (iI y) h = some h' ∧ mo_rp h' (rpLt v k b) ∧ ∀ j, j ≠ 35 → h'.1 (.inl 0) 0 j = h.1 (.inl 0) 0 j := fun y hy => by
    rw [← hy] at e1 R1
    unfold rpLt rpH
    rw [← hy]
    by_cases c : pv_iS v k
    · rw [if_pos c]
      rw [show bI (pv_iS v k) = 1 from if_pos c] at eS
      obtain ⟨h2, e2, R2, z2⟩ := m_tell (x := 33) (by show b.1 + 1 < 400; omega) R1
      have w2 : Wr MR h h2 := w1.tr (wr_X12_tell e2)
      obtain ⟨h3, e3, R3, z3⟩ := hst h2 _ w2 (by show b.1 + 1 + 1 + csL v k ≤ 400; omega) R2
      refine ⟨h3, ?_, R3, fun j hj => (z3 j hj).trans ((z2 j hj).trans (z1 j hj))⟩
      rw [e_X12_tellLetter_22]
      simp (disch := omega) only [xI_le, xI_lt, xI_eq, xI_0, xI_ib, if_pos, if_neg, if_true, if_false, xI_cl, Int.toNat_natCast, iI_m, iI_a, iI_s, iI_1, xI_n, Option.bind_some, Int.natCast_add, Int.natCast_one, xI_zb, if_bI0, if_bI1, xI_rn, xI_ti, e1, eS, e2, e3]
    · rw [if_neg c]
      rw [show bI (pv_iS v k) = 0 from if_neg c] at eS
      obtain ⟨h3, e3, R3, z3⟩ := hst h1 _ w1 (by show b.1 + 1 + csL v k ≤ 400; omega) R1
      refine ⟨h3, ?_, R3, fun j hj => (z3 j hj).trans (z1 j hj)⟩
      rw [e_X12_tellLetter_22]
      simp (disch := omega) only [xI_le, xI_lt, xI_eq, xI_0, xI_ib, if_pos, if_neg, if_true, if_false, xI_cl, Int.toNat_natCast, iI_m, iI_a, iI_s, iI_1, xI_n, Option.bind_some, Int.natCast_add, Int.natCast_one, xI_zb, if_bI0, if_bI1, xI_rn, xI_ti, e1, eS, e3]
  have eP := m_isPlanned hv P hk
  have e0 := m_ofL0 hv P hk
  by_cases c : v.2 6 k = 0
  · obtain ⟨h', e', R'⟩ := e22 97 (by rw [if_pos c])
    refine ⟨h', ?_, R'⟩
    rw [show bI (v.2 6 k = 0) = 1 from if_pos c] at eP
    unfold f_X12_tellLetter
    simp (disch := omega) only [xI_le, xI_lt, xI_eq, xI_0, xI_ib, if_pos, if_neg, if_true, if_false, xI_cl, Int.toNat_natCast, iI_m, iI_a, iI_s, iI_1, xI_n, Option.bind_some, Int.natCast_add, Int.natCast_one, xI_zb, if_bI0, if_bI1, xI_rn, xI_ti, e0, eP, e']
  · obtain ⟨h', e', R'⟩ := e22 65 (by rw [if_neg c])
    refine ⟨h', ?_, R'⟩
    rw [show bI (v.2 6 k = 0) = 0 from if_neg c] at eP
    unfold f_X12_tellLetter
    simp (disch := omega) only [xI_le, xI_lt, xI_eq, xI_0, xI_ib, if_pos, if_neg, if_true, if_false, xI_cl, Int.toNat_natCast, iI_m, iI_a, iI_s, iI_1, xI_n, Option.bind_some, Int.natCast_add, Int.natCast_one, xI_zb, if_bI0, if_bI1, xI_rn, xI_ti, e0, eP, e']
/-- the whole report -/
def rpO (v : pv_T) : rpT := rpR v (pv_fs v (v.1 1 + 1)).2.1 (v.1 1 + 1)
def sRp (st : St) : St := (st.1, st.2.1, st.2.2.1, st.2.2.2.1, st.2.2.2.2.1, (true, (rpO st.1).1, (rpO st.1).2))
theorem rpO_1 (hv : pvA v) : (rpO v).1 ≤ 294 := by
  have hF := (pv_fs_ok hv.1 (v.1 1 + 1) (Nat.le_refl _)).2.1
  have h1 := rpR_1 hv hF (v.1 1) (Nat.le_refl _)
  have h2 := cF_le (f := v.2 12) (m := v.1 1) (v.1 3)
  have h3 := rpF_1 (b := rpR v (pv_fs v (v.1 1 + 1)).2.1 (v.1 1)) hv (hF (v.1 1))
  have h8 := hv.1.1
  unfold rpO
  rw [rpR_f (by omega)]
  omega
theorem sRp_ok (ok : Ok st) : Ok (sRp st) := ⟨ok.1, ok.2.1, ok.2.2.1, ok.2.2.2.1, rpO_1 ok.1, fun z => (by cases z), rpR_ok ok.1 (pv_fs_ok ok.1.1 _ (Nat.le_refl _)).2.1 _⟩
theorem cl_report (ok : Ok st) (R : ClR h st) : ∃ h1, f_X11_report h = some (iI (rpO st.1).1, h1) ∧ ClR h1 (sRp st) ∧ MFr h h1 := by
  have hv := ok.1.1
  have h8 := hv.1
  have hF := (pv_fs_ok hv (st.1.1 1 + 1) (Nat.le_refl _)).2.1
  obtain ⟨h1, e1, Rl, Rf⟩ := k_fill hv R.1
  have w1 := wr_X3_fill e1
  have R1 : ClR h1 st := ClR.wr w1 rfl R
  have Rl' : cl_lay (am_u h1 (.inl 1) 16 1 (iI 0)) st.1 := Rl.eq (am_u_row (by simp)) (am_u_row (by simp))
  have r5 : ∀ i, i ≤ st.1.1 1 → (am_u h1 (.inl 1) 16 1 (iI 0)).1 (.inl 1) 5 i = iI ((pv_fs st.1 (st.1.1 1 + 1)).2.1 i) := fun i hi => by rw [am_u_row (by simp)]; exact (Rf.1 i hi).2
  have P1 : cl_pl (am_u h1 (.inl 1) 16 1 (iI 0)) 0 st.1 := R1.1.eq (fun o => am_u_row (by simp))
  have w0 : Wr LR h1 (am_u h1 (.inl 1) 16 1 (iI 0)) := Wr.u (by simp)
  have R0 : cl_rp (am_u h1 (.inl 1) 16 1 (iI 0)) (0, fun _ => 0) := ⟨by rw [au_s, if_pos rfl]; rfl, fun i hi => absurd hi (Nat.not_lt_zero i)⟩
  have e0 : f_X11_report h = f_X11_report_21 (iI 0) (am_u h1 (.inl 1) 16 1 (iI 0)) := by
    unfold f_X11_report
    simp (disch := omega) only [xI_le, xI_lt, xI_eq, xI_0, xI_ib, if_pos, if_neg, if_true, if_false, xI_cl, Int.toNat_natCast, iI_m, iI_a, iI_s, iI_1, xI_n, Option.bind_some, Int.natCast_add, Int.natCast_one, xI_zb, if_bI0, if_bI1, xI_rn, xI_ti, e1, am_lt]
  generalize am_u h1 (.inl 1) 16 1 (iI 0) = h2 at *
  unfold sRp rpO
  generalize (pv_fs st.1 (st.1.1 1 + 1)).2.1 = F at *
  obtain ⟨s, e2, R2, w2⟩ := ch_rel (fun i s => f_X11_report_21 (iI i) s) (fun i s => cl_rp s (rpR st.1 F i) ∧ Wr LR h2 s) (n := st.1.1 1 + 1) (fun i s hi p => by
    obtain ⟨p, w⟩ := p
    have hi' : i ≤ st.1.1 1 := by omega
    have Ps : cl_pl s 0 st.1 := P1.eq (w.P (by simp))
    have Ls : cl_lay s st.1 := Rl'.eq (w.1 _ _ (by simp)) (w.1 _ _ (by simp))
    have e5 : s.1 (.inl 1) 5 i = iI (F i) := by rw [w.1 _ _ (by simp)]; exact r5 i hi'
    have b1 := rpR_1 ok.1 hF i hi'
    have b2 := cF_le (f := st.1.2 12) (m := i) (st.1.1 3)
    have hFi := hF i
    -- behind the flourish
    have e68 : ∀ (t : am_H), cl_rp t (rpF st.1 F i (rpR st.1 F i)) → Wr LR h2 t → ∃ s', f_X11_report_68 (iI i) t = f_X11_report_21 (iI ((i + 1 : Nat) : Int)) s' ∧ cl_rp s' (rpR st.1 F (i + 1)) ∧ Wr LR h2 s' := fun t pt wt => by
      have Pt : cl_pl t 0 st.1 := P1.eq (wt.P (by simp))
      have Lt : cl_lay t st.1 := Rl'.eq (wt.1 _ _ (by simp)) (wt.1 _ _ (by simp))
      by_cases c : i < st.1.1 1
      · have b3 := rpF_1 (b := rpR st.1 F i) ok.1 (hF i)
        have b4 := cF_le (f := st.1.2 12) (m := i + 1) (st.1.1 3)
        have b5 : cF (st.1.2 12) (st.1.1 3) (i + 1) = cF (st.1.2 12) (st.1.1 3) i + csL st.1 i := rfl
        obtain ⟨s', e', R'⟩ := k_putLetter hv c Pt (by omega) pt
        refine ⟨s', ?_, by rw [rpR_t c]; exact R', wt.tr (wr_X6_putLetter e')⟩
        have eS := k_isSpoiled hv Pt.2.1 Pt.2.2.2.2.1 Lt (l := (i : Int)) (by omega)
        have r6 := Pt.2.1.1
        rw [e_X11_report_68]
        simp (disch := omega) only [xI_le, xI_lt, xI_eq, xI_0, xI_ib, if_pos, if_neg, if_true, if_false, xI_cl, Int.toNat_natCast, iI_m, iI_a, iI_s, iI_1, xI_n, Option.bind_some, Int.natCast_add, Int.natCast_one, xI_zb, if_bI0, if_bI1, xI_rn, xI_ti, r6]
        rw [eS, Option.bind_some, e', Option.bind_some]
      · refine ⟨t, ?_, by rw [rpR_f c]; exact pt, wt⟩
        have r6 := Pt.2.1.1
        rw [e_X11_report_68]
        simp (disch := omega) only [xI_le, xI_lt, xI_eq, xI_0, xI_ib, if_pos, if_neg, if_true, if_false, xI_cl, Int.toNat_natCast, iI_m, iI_a, iI_s, iI_1, xI_n, Option.bind_some, Int.natCast_add, Int.natCast_one, xI_zb, if_bI0, if_bI1, xI_rn, xI_ti, r6]
    show ∃ s', f_X11_report_21 (iI i) s = f_X11_report_21 _ s' ∧ _
    by_cases c : F i = -1
    · obtain ⟨s', e', q⟩ := e68 s (by unfold rpF; rw [if_pos c]; exact p) w
      refine ⟨s', ?_, q⟩
      rw [c] at e5
      rw [e_X11_report_21]
      simp (disch := omega) only [xI_le, xI_lt, xI_eq, xI_0, xI_ib, if_pos, if_neg, if_true, if_false, xI_cl, Int.toNat_natCast, iI_m, iI_a, iI_s, iI_1, xI_n, Option.bind_some, Int.natCast_add, Int.natCast_one, xI_zb, if_bI0, if_bI1, xI_rn, xI_ti, Ls.1, e5]
      rw [e']
      simp (disch := omega) only [xI_le, xI_lt, xI_eq, xI_0, xI_ib, if_pos, if_neg, if_true, if_false, xI_cl, Int.toNat_natCast, iI_m, iI_a, iI_s, iI_1, xI_n, Option.bind_some, Int.natCast_add, Int.natCast_one, xI_zb, if_bI0, if_bI1, xI_rn, xI_ti]
    · obtain ⟨t, et, Rt⟩ := k_putName (q := (F i).toNat) ok.1 (by omega) Ps.2.2.1 (by omega) p
      obtain ⟨s', e', q⟩ := e68 t (by unfold rpF; rw [if_neg c]; exact Rt) (w.tr (wr_X6_putName et))
      refine ⟨s', ?_, q⟩
      rw [show ((F i).toNat : Int) = F i from by omega] at et
      rw [e_X11_report_21]
      simp (disch := omega) only [xI_le, xI_lt, xI_eq, xI_0, xI_ib, if_pos, if_neg, if_true, if_false, xI_cl, Int.toNat_natCast, iI_m, iI_a, iI_s, iI_1, xI_n, Option.bind_some, Int.natCast_add, Int.natCast_one, xI_zb, if_bI0, if_bI1, xI_rn, xI_ti, Ls.1, e5, et]
      rw [e']
      simp (disch := omega) only [xI_le, xI_lt, xI_eq, xI_0, xI_ib, if_pos, if_neg, if_true, if_false, xI_cl, Int.toNat_natCast, iI_m, iI_a, iI_s, iI_1, xI_n, Option.bind_some, Int.natCast_add, Int.natCast_one, xI_zb, if_bI0, if_bI1, xI_rn, xI_ti]) (s0 := h2) ⟨R0, Wr.rf⟩
  have w3 : Wr LR h1 s := w0.tr w2
  have b9 : (rpR st.1 F (st.1.1 1 + 1)).1 ≤ 294 := by
    have h1 := rpR_1 ok.1 hF (st.1.1 1) (Nat.le_refl _)
    have h2 := cF_le (f := st.1.2 12) (m := st.1.1 1) (st.1.1 3)
    have h3 := rpF_1 (b := rpR st.1 F (st.1.1 1)) ok.1 (hF (st.1.1 1))
    rw [rpR_f (by omega)]
    omega
  refine ⟨s, ?_, ?_, (w1.MF rfl).tr (w3.MF rfl)⟩
  · rw [e0]
    refine Eq.trans e2 ?_
    show f_X11_report_21 _ _ = _
    have Ls : cl_lay s st.1 := Rl'.eq (w2.1 _ _ (by simp)) (w2.1 _ _ (by simp))
    rw [e_X11_report_21]
    simp (disch := omega) only [xI_le, xI_lt, xI_eq, xI_0, xI_ib, if_pos, if_neg, if_true, if_false, xI_cl, Int.toNat_natCast, iI_m, iI_a, iI_s, iI_1, xI_n, Option.bind_some, Int.natCast_add, Int.natCast_one, xI_zb, if_bI0, if_bI1, xI_rn, xI_ti, Ls.1, R2.1]
  · obtain ⟨r1, ⟨r2, r3⟩, ⟨r4, r5, r6, r7⟩, ⟨r8, r9⟩, ⟨r10, r11⟩, r12, r13⟩ := R1
    have ek : ∀ k o, s.1 (.inr k) o = h1.1 (.inr k) o := fun k => w3.P (by simp)
    have eo : ∀ o, o ≠ 16 → o ≠ 17 → s.1 (.inl 1) o = h1.1 (.inl 1) o := fun o h16 h17 => w3.1 _ _ (by simp; omega)
    exact ⟨r1.eq (ek 0), ⟨by rw [eo 0 (by omega) (by omega)]; exact r2, fun z => (r3 z).eq (ek 3)⟩, ⟨by rw [eo 0 (by omega) (by omega)]; exact r4, by rw [w3.2.2]; exact r5, by rw [w3.2.2]; exact r6, fun i c hi => by rw [w3.2.2]; exact (r7 i c hi).eq (ek _)⟩, ⟨by rw [eo 8 (by omega) (by omega)]; exact r8, by rw [eo 9 (by omega) (by omega)]; exact r9⟩, ⟨by rw [eo 8 (by omega) (by omega)]; exact r10, by rw [eo 8 (by omega) (by omega)]; exact r11⟩, R2.1, R2.2⟩
theorem mo_report (ok : Ok st) (R : MoR h st) : ∃ h3, f_X12_report h = some (iI (rpO st.1).1, h3) ∧ MoR h3 (sRp st) ∧ CFr h h3 := by
  have hv := ok.1.1
  have h8 := hv.1
  have hF := (pv_fs_ok hv (st.1.1 1 + 1) (Nat.le_refl _)).2.1
  have a0 : Wr [(.inl 0, 0)] h (am_u (am_u (am_u h (.inl 0) 0 0 (iI 0)) (.inl 0) 0 35 (iI 0)) (.inl 0) 0 36 (iI 1)) := (Wr.u (by simp)).tr ((Wr.u (by simp)).tr (Wr.u (by simp)))
  have k36 : (am_u (am_u (am_u h (.inl 0) 0 0 (iI 0)) (.inl 0) 0 35 (iI 0)) (.inl 0) 0 36 (iI 1)).1 (.inl 0) 0 36 = iI 1 := by rw [au_s, if_pos rfl]
  have k35 : (am_u (am_u (am_u h (.inl 0) 0 0 (iI 0)) (.inl 0) 0 35 (iI 0)) (.inl 0) 0 36 (iI 1)).1 (.inl 0) 0 35 = iI 0 := by rw [au_s, if_neg (by omega), au_s, if_pos rfl]
  have kj : ∀ j, j ≠ 0 → j ≠ 35 → j ≠ 36 → (am_u (am_u (am_u h (.inl 0) 0 0 (iI 0)) (.inl 0) 0 35 (iI 0)) (.inl 0) 0 36 (iI 1)).1 (.inl 0) 0 j = h.1 (.inl 0) 0 j := fun j h0 h35 h36 => by rw [au_s, if_neg h36, au_s, if_neg h35, au_s, if_neg h0]
  have e0 : f_X12_report h = (f_X12_laysFlourishes (am_u (am_u (am_u h (.inl 0) 0 0 (iI 0)) (.inl 0) 0 35 (iI 0)) (.inl 0) 0 36 (iI 1))).bind (fun a1 => f_X12_report_21 (iI 0) a1) := by
    unfold f_X12_report
    simp (disch := omega) only [xI_le, xI_lt, xI_eq, xI_0, xI_ib, if_pos, if_neg, if_true, if_false, xI_cl, Int.toNat_natCast, iI_m, iI_a, iI_s, iI_1, xI_n, Option.bind_some, Int.natCast_add, Int.natCast_one, xI_zb, if_bI0, if_bI1, xI_rn, xI_ti, am_lt]
  generalize (am_u (am_u (am_u h (.inl 0) 0 0 (iI 0)) (.inl 0) 0 35 (iI 0)) (.inl 0) 0 36 (iI 1)) = h1 at *
  have P1 : mo_pl h1 st.1 := R.1.1.eq (a0.1 _ _ (by simp))
  obtain ⟨h2, e1, r10, -⟩ := m_lays hv P1
  have w1 := wr_X12_laysFlourishes e1
  have P2 : mo_pl h2 st.1 := P1.eq (w1.1 _ _ (by simp))
  have k0 : h2.1 (.inl 0) 0 = h1.1 (.inl 0) 0 := w1.1 _ _ (by simp)
  have R0 : mo_rp h2 (0, fun _ => 0) := ⟨by rw [k0]; exact k35, fun i hi => absurd hi (Nat.not_lt_zero i)⟩
  have N2 : mo_nm h2 7 st.1 := by
    have := R.1.2
    unfold mo_nm at *
    rw [w1.2.1 _ _ (by simp), a0.2.1 _ _ (by simp)]
    exact this
  unfold sRp rpO
  generalize (pv_fs st.1 (st.1.1 1 + 1)).2.1 = F at *
  obtain ⟨s, e2, R2, w2, z2⟩ := ch_rel (fun i s => f_X12_report_21 (iI i) s) (fun i s => mo_rp s (rpR st.1 F i) ∧ Wr MR h2 s ∧ ∀ j, j ≠ 35 → s.1 (.inl 0) 0 j = h2.1 (.inl 0) 0 j) (n := st.1.1 1 + 1) (fun i s hi p => by
    obtain ⟨p, w, z⟩ := p
    have hi' : i ≤ st.1.1 1 := by omega
    have Ps : mo_pl s st.1 := P2.eq (w.1 _ _ (by simp))
    have Ns : mo_nm s 7 st.1 := by
      unfold mo_nm at *
      rw [w.2.1 _ _ (by simp)]
      exact N2
    have e5 : s.1 (.inl 0) 10 i = iI (F i) := by rw [w.1 _ _ (by simp)]; exact r10 i hi'
    have b1 := rpR_1 ok.1 hF i hi'
    have b2 := cF_le (f := st.1.2 12) (m := i) (st.1.1 3)
    have hFi := hF i
    have e51 : ∀ (t : am_H), mo_rp t (rpF st.1 F i (rpR st.1 F i)) → Wr MR h2 t → (∀ j, j ≠ 35 → t.1 (.inl 0) 0 j = h2.1 (.inl 0) 0 j) → ∃ s', f_X12_report_51 (iI i) t = f_X12_report_21 (iI ((i + 1 : Nat) : Int)) s' ∧ mo_rp s' (rpR st.1 F (i + 1)) ∧ Wr MR h2 s' ∧ ∀ j, j ≠ 35 → s'.1 (.inl 0) 0 j = h2.1 (.inl 0) 0 j := fun t pt wt zt => by
      have Pt : mo_pl t st.1 := P2.eq (wt.1 _ _ (by simp))
      have r1 := Pt.1.2.1
      by_cases c : i < st.1.1 1
      · have b3 := rpF_1 (b := rpR st.1 F i) ok.1 (hF i)
        have b4 := cF_le (f := st.1.2 12) (m := i + 1) (st.1.1 3)
        have b5 : cF (st.1.2 12) (st.1.1 3) (i + 1) = cF (st.1.2 12) (st.1.1 3) i + csL st.1 i := rfl
        obtain ⟨s', e', R', z'⟩ := m_tellLetter hv c Pt (by omega) pt
        refine ⟨s', ?_, by rw [rpR_t c]; exact R', wt.tr (wr_X12_tellLetter e'), fun j hj => (z' j hj).trans (zt j hj)⟩
        rw [e_X12_report_51]
        simp (disch := omega) only [xI_le, xI_lt, xI_eq, xI_0, xI_ib, if_pos, if_neg, if_true, if_false, xI_cl, Int.toNat_natCast, iI_m, iI_a, iI_s, iI_1, xI_n, Option.bind_some, Int.natCast_add, Int.natCast_one, xI_zb, if_bI0, if_bI1, xI_rn, xI_ti, Int.toNat_one, r1, e']
      · refine ⟨t, ?_, by rw [rpR_f c]; exact pt, wt, zt⟩
        rw [e_X12_report_51]
        simp (disch := omega) only [xI_le, xI_lt, xI_eq, xI_0, xI_ib, if_pos, if_neg, if_true, if_false, xI_cl, Int.toNat_natCast, iI_m, iI_a, iI_s, iI_1, xI_n, Option.bind_some, Int.natCast_add, Int.natCast_one, xI_zb, if_bI0, if_bI1, xI_rn, xI_ti, Int.toNat_one, r1]
    show ∃ s', f_X12_report_21 (iI i) s = f_X12_report_21 _ s' ∧ _
    have r1 := Ps.1.2.1
    by_cases c : F i = -1
    · obtain ⟨s', e', q⟩ := e51 s (by unfold rpF; rw [if_pos c]; exact p) w z
      refine ⟨s', ?_, q⟩
      rw [c] at e5
      rw [e_X12_report_21]
      simp (disch := omega) only [xI_le, xI_lt, xI_eq, xI_0, xI_ib, if_pos, if_neg, if_true, if_false, xI_cl, Int.toNat_natCast, iI_m, iI_a, iI_s, iI_1, xI_n, Option.bind_some, Int.natCast_add, Int.natCast_one, xI_zb, if_bI0, if_bI1, xI_rn, xI_ti, Int.toNat_one, r1, e5]
      rw [e']
      simp (disch := omega) only [xI_le, xI_lt, xI_eq, xI_0, xI_ib, if_pos, if_neg, if_true, if_false, xI_cl, Int.toNat_natCast, iI_m, iI_a, iI_s, iI_1, xI_n, Option.bind_some, Int.natCast_add, Int.natCast_one, xI_zb, if_bI0, if_bI1, xI_rn, xI_ti]
    · obtain ⟨t, et, Rt, zt⟩ := m_tellFlourish (q := (F i).toNat) ok.1 (by omega) Ns (by omega) p
      obtain ⟨s', e', q⟩ := e51 t (by unfold rpF; rw [if_neg c]; exact Rt) (w.tr (wr_X12_tellFlourish et)) (fun j hj => (zt j hj).trans (z j hj))
      refine ⟨s', ?_, q⟩
      rw [show ((F i).toNat : Int) = F i from by omega] at et
      rw [e_X12_report_21]
      simp (disch := omega) only [xI_le, xI_lt, xI_eq, xI_0, xI_ib, if_pos, if_neg, if_true, if_false, xI_cl, Int.toNat_natCast, iI_m, iI_a, iI_s, iI_1, xI_n, Option.bind_some, Int.natCast_add, Int.natCast_one, xI_zb, if_bI0, if_bI1, xI_rn, xI_ti, Int.toNat_one, r1, e5, et]
      rw [e']
      simp (disch := omega) only [xI_le, xI_lt, xI_eq, xI_0, xI_ib, if_pos, if_neg, if_true, if_false, xI_cl, Int.toNat_natCast, iI_m, iI_a, iI_s, iI_1, xI_n, Option.bind_some, Int.natCast_add, Int.natCast_one, xI_zb, if_bI0, if_bI1, xI_rn, xI_ti]) (s0 := h2) ⟨R0, Wr.rf, fun _ _ => rfl⟩
  have w3 : Wr [(.inl 0, 0), (.inl 0, 10), (.inl 0, 11), (.inl 0, 12), (.inl 0, 17)] h s := (a0.mono (by simp)).tr ((w1.mono (by simp)).tr (w2.mono (by simp)))
  have kk : ∀ j, j ≠ 0 → j ≠ 35 → j ≠ 36 → s.1 (.inl 0) 0 j = h.1 (.inl 0) 0 j := fun j h0 h35 h36 => by rw [z2 j h35, k0, kj j h0 h35 h36]
  have ko : ∀ o, o ≠ 0 → o ≠ 10 → o ≠ 11 → o ≠ 12 → o ≠ 17 → s.1 (.inl 0) o = h.1 (.inl 0) o := fun o a b c d e => w3.1 _ _ (by simp; omega)
  have kl : ∀ o, o ≠ 0 → o ≠ 10 → o ≠ 11 → o ≠ 12 → o ≠ 17 → s.2.1 (.inl 0) o = h.2.1 (.inl 0) o := fun o a b c d e => w3.2.1 _ _ (by simp; omega)
  have b9 : (rpR st.1 F (st.1.1 1 + 1)).1 ≤ 294 := by
    have h1 := rpR_1 ok.1 hF (st.1.1 1) (Nat.le_refl _)
    have h2 := cF_le (f := st.1.2 12) (m := st.1.1 1) (st.1.1 3)
    have h3 := rpF_1 (b := rpR st.1 F (st.1.1 1)) ok.1 (hF (st.1.1 1))
    rw [rpR_f (by omega)]
    omega
  refine ⟨s, ?_, ?_, w3.CF rfl⟩
  · rw [e0, e1, Option.bind_some]
    refine Eq.trans e2 ?_
    show f_X12_report_21 _ _ = _
    have Ps : mo_pl s st.1 := P2.eq (w2.1 _ _ (by simp))
    have r1 := Ps.1.2.1
    rw [e_X12_report_21]
    simp (disch := omega) only [xI_le, xI_lt, xI_eq, xI_0, xI_ib, if_pos, if_neg, if_true, if_false, xI_cl, Int.toNat_natCast, iI_m, iI_a, iI_s, iI_1, xI_n, Option.bind_some, Int.natCast_add, Int.natCast_one, xI_zb, if_bI0, if_bI1, xI_rn, xI_ti, Int.toNat_one, r1, R2.1]
  · obtain ⟨⟨r1, r1n⟩, r2, ⟨r3, r4⟩, r5, r6, r7⟩ := R
    unfold mo_pl mo_nm at *
    refine ⟨⟨?_, ?_⟩, ?_, ?_, ?_, ?_, ?_, fun _ => ⟨R2.1, R2.2⟩⟩
    · unfold mo_pl; rw [ko 2 (by omega) (by omega) (by omega) (by omega) (by omega)]; exact r1
    · unfold mo_nm; rw [kl 7 (by omega) (by omega) (by omega) (by omega) (by omega)]; exact r1n
    · unfold mo_nm; rw [kk 22 (by omega) (by omega) (by omega), ko 3 (by omega) (by omega) (by omega) (by omega) (by omega), kl 8 (by omega) (by omega) (by omega) (by omega) (by omega)]; exact r2
    · rw [kk 21 (by omega) (by omega) (by omega), ko 6 (by omega) (by omega) (by omega) (by omega) (by omega)]; exact ⟨r3, r4⟩
    · rw [kk 2 (by omega) (by omega) (by omega), ko 1 (by omega) (by omega) (by omega) (by omega) (by omega)]; exact r5
    · rw [kk 10 (by omega) (by omega) (by omega), kk 11 (by omega) (by omega) (by omega)]; exact r6
    · rw [z2 36 (by omega), k0, k36]; rfl
end RPT
