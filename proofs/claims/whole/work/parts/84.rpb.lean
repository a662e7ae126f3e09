/-! the report: what is written, on both sides -/
abbrev rpT : Type := Nat × (Nat → Int)
def rpA (b : rpT) (x : Int) : rpT := (b.1 + 1, fun i => if i = b.1 then x else b.2 i)
def rpL (f : Nat → Int) : Nat → rpT → rpT
  | 0, b => b
  | n + 1, b => rpA (rpL f n b) (f n)
def nln (f : Nat → Int) : Nat := pv_fst (fun i => decide (f i = 0)) 8 0
def rpN (f : Nat → Int) (b : rpT) : rpT := rpA (rpL f (nln f) (rpA b 40)) 41
def rpS : Nat → rpT → rpT
  | 0, b => b
  | n + 1, b => rpA (rpS n b) 42
theorem rpL_1 {f : Nat → Int} {b : rpT} : ∀ n, (rpL f n b).1 = b.1 + n
  | 0 => rfl
  | n + 1 => by show (rpL f n b).1 + 1 = b.1 + (n + 1); rw [rpL_1 n]; omega
theorem rpS_1 {b : rpT} : ∀ n, (rpS n b).1 = b.1 + n
  | 0 => rfl
  | n + 1 => by show (rpS n b).1 + 1 = b.1 + (n + 1); rw [rpS_1 n]; omega
theorem nln_eq {f : Nat → Int} {n : Nat} (h8 : n ≤ 8) (hl : ∀ i, i < n → 97 ≤ f i ∧ f i ≤ 122) (hz : ∀ i, n ≤ i → i < 8 → f i = 0) : nln f = n := by
  have h1 := pv_fst_le (fun i => decide (f i = 0)) 8 0
  have h2 := pv_fst_at (fun i => decide (f i = 0)) 8 0
  have h3 := pv_fst_lt (fun i => decide (f i = 0)) 8 0
  unfold nln
  generalize pv_fst (fun i => decide (f i = 0)) 8 0 = m at *
  simp only [decide_eq_true_eq, decide_eq_false_iff_not] at h2 h3
  by_cases c : m < n
  · have := h2 (by omega)
    have := hl m c
    omega
  · by_cases d : n < m
    · exact absurd (hz n (Nat.le_refl n) (by omega)) (h3 n (by omega) d)
    · omega
/-- bytes of a report -/
def rp_ok (b : rpT) : Prop := ∀ i, 0 ≤ b.2 i ∧ b.2 i ≤ 127
theorem rpA_ok {b : rpT} {x : Int} (hb : rp_ok b) (hx : 0 ≤ x ∧ x ≤ 127) : rp_ok (rpA b x) := fun i => by
  show 0 ≤ (if i = b.1 then x else b.2 i) ∧ (if i = b.1 then x else b.2 i) ≤ 127
  split
  · exact hx
  · exact hb i
theorem rpL_ok {f : Nat → Int} {b : rpT} (hb : rp_ok b) : ∀ n, (∀ i, i < n → 97 ≤ f i ∧ f i ≤ 122) → rp_ok (rpL f n b)
  | 0, _ => hb
  | n + 1, hl => rpA_ok (rpL_ok hb n (fun i hi => hl i (by omega))) (by have := hl n (by omega); omega)
theorem rpS_ok {b : rpT} (hb : rp_ok b) : ∀ n, rp_ok (rpS n b)
  | 0 => hb
  | n + 1 => rpA_ok (rpS_ok hb n) (by omega)
theorem nar_y {x : Int} (h : 0 ≤ x ∧ x ≤ 127) : vp_nar .byte (iI x).toInt8.toInt32 = iI x := by
  obtain ⟨n, rfl⟩ : ∃ n : Nat, x = n := ⟨x.toNat, by omega⟩
  have hn : n ≤ 127 := by omega
  have key : ∀ m : Fin 128, vp_nar .byte (iI ((m.1 : Nat) : Int)).toInt8.toInt32 = iI ((m.1 : Nat) : Int) := by decide +kernel
  exact key ⟨n, by omega⟩
def cl_rp (h : am_H) (b : rpT) : Prop := h.1 (.inl 1) 16 1 = iI b.1 ∧ ∀ i, i < b.1 → h.1 (.inl 1) 17 i = iI (b.2 i)
def mo_rp (h : am_H) (b : rpT) : Prop := h.1 (.inl 0) 0 35 = iI b.1 ∧ ∀ i, i < b.1 → h.1 (.inl 0) 17 i = iI (b.2 i)
section RPB
variable {h : am_H} {b : rpT}
theorem k_put {x : Int} (hb : b.1 < 294) (hx : 0 ≤ x ∧ x ≤ 127) (R : cl_rp h b) : ∃ h', f_X6_put (iI x) h = some h' ∧ cl_rp h' (rpA b x) := by
  obtain ⟨r1, r2⟩ := R
  refine ⟨am_u (am_u h (.inl 1) 17 b.1 (iI x)) (.inl 1) 16 1 (iI ((b.1 : Int) + 1)), ?_, ?_, fun i hi => ?_⟩
  · unfold f_X6_put
    simp (disch := omega) only [xI_le, xI_lt, xI_eq, xI_0, xI_ib, if_pos, if_neg, if_true, if_false, xI_cl, Int.toNat_natCast, iI_m, iI_a, iI_s, iI_1, xI_n, Option.bind_some, Int.natCast_add, Int.natCast_one, xI_zb, if_bI0, if_bI1, xI_rn, xI_ti, r1, nar_y hx, am_lt, am_u_row (show ((.inl 1 : am_G), 16) ≠ (.inl 1, 17) by simp)]
  · rw [au_s, if_pos rfl]; rfl
  · have hi' : i < b.1 + 1 := hi
    rw [am_u_row (by simp), au_s]
    show _ = iI (if i = b.1 then x else b.2 i)
    by_cases c : i = b.1
    · rw [if_pos c, if_pos c]
    · rw [if_neg c, if_neg c]; exact r2 i (by omega)
theorem m_tell {x : Int} (hb : b.1 < 400) (R : mo_rp h b) : ∃ h', f_X12_tell (iI x) h = some h' ∧ mo_rp h' (rpA b x) ∧ ∀ j, j ≠ 35 → h'.1 (.inl 0) 0 j = h.1 (.inl 0) 0 j := by
  obtain ⟨r1, r2⟩ := R
  refine ⟨am_u (am_u h (.inl 0) 17 b.1 (iI x)) (.inl 0) 0 35 (iI ((b.1 : Int) + 1)), ?_, ⟨?_, fun i hi => ?_⟩, fun j hj => by rw [au_s, if_neg hj, am_u_row (by simp)]⟩
  · unfold f_X12_tell
    simp (disch := omega) only [xI_le, xI_lt, xI_eq, xI_0, xI_ib, if_pos, if_neg, if_true, if_false, xI_cl, Int.toNat_natCast, iI_m, iI_a, iI_s, iI_1, xI_n, Option.bind_some, Int.natCast_add, Int.natCast_one, xI_zb, if_bI0, if_bI1, xI_rn, xI_ti, r1, am_lt, am_u_row (show ((.inl 0 : am_G), 0) ≠ (.inl 0, 17) by simp)]
  · rw [au_s, if_pos rfl]; rfl
  · have hi' : i < b.1 + 1 := hi
    rw [am_u_row (by simp), au_s]
    show _ = iI (if i = b.1 then x else b.2 i)
    by_cases c : i = b.1
    · rw [if_pos c, if_pos c]
    · rw [if_neg c, if_neg c]; exact r2 i (by omega)
abbrev LR : List (am_G × Nat) := [(.inl 1, 17), (.inl 1, 16)]
abbrev MR : List (am_G × Nat) := [(.inl 0, 17), (.inl 0, 0)]
theorem k_putName {v : pv_T} {q : Nat} (hv : pvA v) (hq : q < v.1 2) (K : cl_ki h 0 v) (hb : b.1 + 10 ≤ 294) (R : cl_rp h b) : ∃ h', f_X6_putName 0 (iI q) h = some h' ∧ cl_rp h' (rpN (nmf v q) b) := by
  obtain ⟨n, h8, hl, hz, -, h1⟩ := nm_len hv hq
  have hn := nln_eq h8 hl hz
  obtain ⟨h1', e1, R1⟩ := k_put (x := 40) (by omega) (by omega) R
  have w1 := wr_X6_put e1
  obtain ⟨s, e2, R2, w2⟩ := ch_rel (fun i s => f_X6_putName_8 0 (iI q) (iI i) s) (fun i s => cl_rp s (rpL (nmf v q) i (rpA b 40)) ∧ Wr LR h s) (n := n) (fun i s hi hs => by
    obtain ⟨p, w⟩ := hs
    have K1 : cl_ki s 0 v := K.eq (w.P (by simp))
    have hc := hl i hi
    have e : f_X2_nameByte 0 (iI q) (iI i) s = some (iI (nmf v q i)) := by
      have := k_nameByte hv.1 K1 hq (i := (i : Int)) (by omega)
      rw [if_pos (by omega), Int.toNat_natCast] at this
      exact this
    obtain ⟨s', e', R'⟩ := k_put (x := nmf v q i) (by rw [rpL_1]; show b.1 + 1 + i < 294; omega) (by omega) p
    refine ⟨s', ?_, R', w.tr (wr_X6_put e')⟩
    show f_X6_putName_8 _ _ _ _ = f_X6_putName_8 _ _ _ _
    generalize nmf v q i = c at *
    rw [e_X6_putName_8]
    simp (disch := omega) only [xI_le, xI_lt, xI_eq, xI_0, xI_ib, if_pos, if_neg, if_true, if_false, xI_cl, Int.toNat_natCast, iI_m, iI_a, iI_s, iI_1, xI_n, Option.bind_some, Int.natCast_add, Int.natCast_one, xI_zb, if_bI0, if_bI1, xI_rn, xI_ti, e, e']) (s0 := h1') ⟨R1, w1⟩
  obtain ⟨h3, e3, R3⟩ := k_put (x := 41) (by rw [rpL_1]; show b.1 + 1 + n < 294; omega) (by omega) R2
  refine ⟨h3, ?_, ?_⟩
  · unfold f_X6_putName
    rw [e1, Option.bind_some]
    refine Eq.trans e2 ?_
    show f_X6_putName_8 _ _ _ _ = _
    have K1 : cl_ki s 0 v := K.eq (w2.P (by simp))
    rw [e_X6_putName_8]
    by_cases c : n = 8
    · simp (disch := omega) only [xI_le, xI_lt, xI_eq, xI_0, xI_ib, if_pos, if_neg, if_true, if_false, xI_cl, Int.toNat_natCast, iI_m, iI_a, iI_s, iI_1, xI_n, Option.bind_some, Int.natCast_add, Int.natCast_one, xI_zb, if_bI0, if_bI1, xI_rn, xI_ti, c, e3]
    · have e : f_X2_nameByte 0 (iI q) (iI n) s = some (iI (nmf v q n)) := by
        have := k_nameByte hv.1 K1 hq (i := (n : Int)) (by omega)
        rw [if_pos (by omega), Int.toNat_natCast] at this
        exact this
      rw [hz n (Nat.le_refl n) (by omega)] at e
      simp (disch := omega) only [xI_le, xI_lt, xI_eq, xI_0, xI_ib, if_pos, if_neg, if_true, if_false, xI_cl, Int.toNat_natCast, iI_m, iI_a, iI_s, iI_1, xI_n, Option.bind_some, Int.natCast_add, Int.natCast_one, xI_zb, if_bI0, if_bI1, xI_rn, xI_ti, e, e3]
  · unfold rpN
    rw [hn]; exact R3
theorem m_tellFlourish {v : pv_T} {q : Nat} (hv : pvA v) (hq : q < v.1 2) (N : mo_nm h 7 v) (hb : b.1 + 10 ≤ 400) (R : mo_rp h b) : ∃ h', f_X12_tellFlourish (iI q) h = some h' ∧ mo_rp h' (rpN (nmf v q) b) ∧ ∀ j, j ≠ 35 → h'.1 (.inl 0) 0 j = h.1 (.inl 0) 0 j := by
  have hq6 := hv.1.1.2.2.1
  obtain ⟨n, h8, hl, hz, hp, h1⟩ := nm_len hv hq
  have hn := nln_eq h8 hl hz
  obtain ⟨h1', e1, R1, z1⟩ := m_tell (x := 40) (by omega) R
  have w1 := wr_X12_tell e1
  have hN := N q hq
  rw [hp] at hN
  obtain ⟨s, e2, R2, w2, z2⟩ := ch_rel (fun i s => f_X12_tellFlourish_8 (iI q) (iI i) s) (fun i s => mo_rp s (rpL (nmf v q) i (rpA b 40)) ∧ Wr MR h s ∧ ∀ j, j ≠ 35 → s.1 (.inl 0) 0 j = h.1 (.inl 0) 0 j) (n := n) (fun i s hi hs => by
    obtain ⟨p, w, z⟩ := hs
    have hN1 : s.2.1 (.inl 0) 7 q = lN (pkN (nmf v q) n) := by rw [w.2.1 _ _ (by simp)]; exact hN
    obtain ⟨s', e', R', z'⟩ := m_tell (x := nmf v q i) (by rw [rpL_1]; show b.1 + 1 + i < 400; omega) p
    refine ⟨s', ?_, R', w.tr (wr_X12_tell e'), fun j hj => (z' j hj).trans (z j hj)⟩
    show f_X12_tellFlourish_8 _ _ _ = f_X12_tellFlourish_8 _ _ _
    have eL := m_letterOf h8 hl (i := (i : Int)) (by omega)
    rw [if_pos (by omega), Int.toNat_natCast] at eL
    rw [e_X12_tellFlourish_8]
    simp (disch := omega) only [xI_le, xI_lt, xI_eq, xI_0, xI_ib, if_pos, if_neg, if_true, if_false, xI_cl, Int.toNat_natCast, iI_m, iI_a, iI_s, iI_1, xI_n, Option.bind_some, Int.natCast_add, Int.natCast_one, xI_zb, if_bI0, if_bI1, xI_rn, xI_ti, hN1, m_lettersOf h8 hl, eL, e']) (s0 := h1') ⟨R1, w1, z1⟩
  obtain ⟨h3, e3, R3, z3⟩ := m_tell (x := 41) (by rw [rpL_1]; show b.1 + 1 + n < 400; omega) R2
  refine ⟨h3, ?_, ?_, fun j hj => (z3 j hj).trans (z2 j hj)⟩
  · unfold f_X12_tellFlourish
    rw [e1, Option.bind_some]
    refine Eq.trans e2 ?_
    show f_X12_tellFlourish_8 _ _ _ = _
    have hN1 : s.2.1 (.inl 0) 7 q = lN (pkN (nmf v q) n) := by rw [w2.2.1 _ _ (by simp)]; exact hN
    rw [e_X12_tellFlourish_8]
    simp (disch := omega) only [xI_le, xI_lt, xI_eq, xI_0, xI_ib, if_pos, if_neg, if_true, if_false, xI_cl, Int.toNat_natCast, iI_m, iI_a, iI_s, iI_1, xI_n, Option.bind_some, Int.natCast_add, Int.natCast_one, xI_zb, if_bI0, if_bI1, xI_rn, xI_ti, hN1, m_lettersOf h8 hl, e3]
  · unfold rpN
    rw [hn]; exact R3
end RPB
