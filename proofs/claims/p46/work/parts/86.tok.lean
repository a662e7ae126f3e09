/-! tokens: what they are, and the program's -/
abbrev bfT : Type := Nat × (Nat → Int)
abbrev Tk : Type := Nat × Nat × Nat
def bl (b : bfT) (p : Nat) : Nat := pv_fst (fun i => decide (¬ (b.2 i = 32 ∨ b.2 i = 10))) (b.1 - p) p
theorem bl_le {b : bfT} {p : Nat} (h : p ≤ b.1) : p ≤ bl b p ∧ bl b p ≤ b.1 := by
  have := pv_fst_le (fun i => decide (¬ (b.2 i = 32 ∨ b.2 i = 10))) (b.1 - p) p
  unfold bl
  omega
theorem bl_in {b : bfT} {p j : Nat} (h1 : p ≤ j) (h2 : j < bl b p) : b.2 j = 32 ∨ b.2 j = 10 := by
  have := pv_fst_lt (fun i => decide (¬ (b.2 i = 32 ∨ b.2 i = 10))) (b.1 - p) p j h1 h2
  simp only [decide_eq_false_iff_not] at this
  omega
theorem bl_at {b : bfT} {p : Nat} (h : p ≤ b.1) (h2 : bl b p < b.1) : ¬ (b.2 (bl b p) = 32 ∨ b.2 (bl b p) = 10) := by
  have := pv_fst_at (fun i => decide (¬ (b.2 i = 32 ∨ b.2 i = 10))) (b.1 - p) p (by unfold bl at h2; omega)
  have := of_decide_eq_true this
  exact this
def tkS (b : bfT) (s : Nat) : Tk := if b.1 ≤ s then (0, s, b.1) else if 97 ≤ b.2 s ∧ b.2 s ≤ 122 then (if run b.2 97 122 b.1 s ≤ s + 8 then 1 else 4, s, run b.2 97 122 b.1 s) else if 48 ≤ b.2 s ∧ b.2 s ≤ 57 then (if run b.2 48 57 b.1 s ≤ s + 3 then 2 else 4, s, run b.2 48 57 b.1 s) else (if b.2 s = 59 ∨ b.2 s = 40 ∨ b.2 s = 41 then 3 else 4, s, s + 1)
def tkA (b : bfT) (p : Nat) : Tk := tkS b (bl b p)
def tk_ok (b : bfT) (T : Tk) : Prop := T.1 ≤ 4 ∧ T.2.1 ≤ T.2.2 ∧ T.2.2 ≤ b.1 ∧ (T.1 = 0 → T.2.1 = b.1) ∧ (T.1 ≠ 0 → T.2.1 < T.2.2) ∧ (T.1 = 1 → T.2.2 ≤ T.2.1 + 8 ∧ ∀ i, T.2.1 ≤ i → i < T.2.2 → 97 ≤ b.2 i ∧ b.2 i ≤ 122) ∧ (T.1 = 2 → T.2.2 ≤ T.2.1 + 3 ∧ ∀ i, T.2.1 ≤ i → i < T.2.2 → 48 ≤ b.2 i ∧ b.2 i ≤ 57)
theorem run_gt {b : Nat → Int} {lo hi : Int} {n a : Nat} (h : a < n) (h2 : lo ≤ b a ∧ b a ≤ hi) : a < run b lo hi n a := by
  have h1 := run_le b lo hi (n := n) (a := a) (by omega)
  by_cases c : run b lo hi n a = a
  · have := run_at (b := b) (lo := lo) (hi := hi) (n := n) (a := a) (by omega) (by omega)
    rw [c] at this
    exact absurd h2 this
  · omega
theorem tkS_ok {b : bfT} {s : Nat} (h : s ≤ b.1) : tk_ok b (tkS b s) ∧ (tkS b s).2.1 = s := by
  unfold tkS
  by_cases c : b.1 ≤ s
  · rw [if_pos c]
    exact ⟨⟨by omega, h, Nat.le_refl _, fun _ => by show s = b.1; omega, fun z => absurd rfl z, fun z => (by cases z), fun z => (by cases z)⟩, rfl⟩
  · rw [if_neg c]
    by_cases c1 : 97 ≤ b.2 s ∧ b.2 s ≤ 122
    · rw [if_pos c1]
      have h1 := run_le b.2 97 122 h
      have h2 := run_gt (n := b.1) (by omega) c1
      have h3 := fun j (a1 : s ≤ j) (a2 : j < run b.2 97 122 b.1 s) => run_in a1 a2
      generalize run b.2 97 122 b.1 s = m at *
      refine ⟨⟨?_, h1.1, h1.2, fun z => ?_, fun _ => h2, fun z => ?_, fun z => ?_⟩, rfl⟩
      · show (if m ≤ s + 8 then 1 else 4) ≤ 4; split <;> omega
      · have z : (if m ≤ s + 8 then 1 else 4) = 0 := z
        split at z <;> omega
      · have z : (if m ≤ s + 8 then 1 else 4) = 1 := z
        exact ⟨by show m ≤ s + 8; split at z <;> omega, h3⟩
      · have z : (if m ≤ s + 8 then 1 else 4) = 2 := z
        split at z <;> omega
    · rw [if_neg c1]
      by_cases c2 : 48 ≤ b.2 s ∧ b.2 s ≤ 57
      · rw [if_pos c2]
        have h1 := run_le b.2 48 57 h
        have h2 := run_gt (n := b.1) (by omega) c2
        have h3 := fun j (a1 : s ≤ j) (a2 : j < run b.2 48 57 b.1 s) => run_in a1 a2
        generalize run b.2 48 57 b.1 s = m at *
        refine ⟨⟨?_, h1.1, h1.2, fun z => ?_, fun _ => h2, fun z => ?_, fun z => ?_⟩, rfl⟩
        · show (if m ≤ s + 3 then 2 else 4) ≤ 4; split <;> omega
        · have z : (if m ≤ s + 3 then 2 else 4) = 0 := z
          split at z <;> omega
        · have z : (if m ≤ s + 3 then 2 else 4) = 1 := z
          split at z <;> omega
        · have z : (if m ≤ s + 3 then 2 else 4) = 2 := z
          exact ⟨by show m ≤ s + 3; split at z <;> omega, h3⟩
      · rw [if_neg c2]
        refine ⟨⟨?_, ?_, ?_, fun z => ?_, fun _ => ?_, fun z => ?_, fun z => ?_⟩, rfl⟩
        · show (if b.2 s = 59 ∨ b.2 s = 40 ∨ b.2 s = 41 then 3 else 4) ≤ 4; split <;> omega
        · show s ≤ s + 1; omega
        · show s + 1 ≤ b.1; omega
        · have z : (if b.2 s = 59 ∨ b.2 s = 40 ∨ b.2 s = 41 then 3 else 4) = 0 := z
          split at z <;> omega
        · show s < s + 1; omega
        · have z : (if b.2 s = 59 ∨ b.2 s = 40 ∨ b.2 s = 41 then 3 else 4) = 1 := z
          split at z <;> omega
        · have z : (if b.2 s = 59 ∨ b.2 s = 40 ∨ b.2 s = 41 then 3 else 4) = 2 := z
          split at z <;> omega
theorem tkA_ok {b : bfT} {p : Nat} (h : p ≤ b.1) : tk_ok b (tkA b p) ∧ p ≤ (tkA b p).2.1 := by
  have h1 := bl_le h
  have h2 := tkS_ok h1.2
  refine ⟨h2.1, ?_⟩
  show p ≤ (tkS b (bl b p)).2.1
  rw [h2.2]; exact h1.1
abbrev bOk (b : bfT) : Prop := b.1 ≤ 500 ∧ ∀ i, 0 ≤ b.2 i ∧ b.2 i ≤ 255
def cl_t0 (h : am_H) (b : bfT) (T : Tk) : Prop := cl_bf h b ∧ h.1 (.inl 1) 8 2 = iI T.1 ∧ h.1 (.inl 1) 8 3 = iI T.2.1 ∧ h.1 (.inl 1) 8 4 = iI T.2.2
def cl_tk (h : am_H) (b : bfT) (T : Tk) : Prop := cl_t0 h b T ∧ h.1 (.inl 1) 8 6 = iI 0 ∧ h.1 (.inl 1) 8 7 = iI (-1)
section TOK
variable {h : am_H} {b : bfT}
theorem k_blanks (hb : bOk b) (R : cl_bf h b) {p : Nat} (hp : p ≤ b.1) : f_X10_endOfBlanks (iI p) h = some (iI (bl b p)) := by
  have hle := bl_le hp
  have hb1 := hb.1
  obtain ⟨R8, R9⟩ := R
  have s := ch_to (fun i : Nat => f_X10_endOfBlanks_2 (iI i) h) hle.1 (fun i h1 h2 => by
    show f_X10_endOfBlanks_2 _ _ = f_X10_endOfBlanks_2 _ _
    have hr := bl_in h1 h2
    have hs2 := sby_e (b := b.2 i) (by omega)
    have h9 := R9 i (by omega)
    rw [hs2] at h9
    rw [e_X10_endOfBlanks_2]
    rcases hr with hr | hr
    · rw [hr] at h9
      simp (disch := omega) only [xI_le, xI_lt, xI_eq, xI_0, xI_ib, if_pos, if_neg, if_true, if_false, xI_cl, Int.toNat_natCast, iI_m, iI_a, iI_s, iI_1, xI_n, Option.bind_some, Int.natCast_add, Int.natCast_one, xI_zb, if_bI0, if_bI1, xI_rn, xI_ti, R8, h9]
    · rw [hr] at h9
      simp (disch := omega) only [xI_le, xI_lt, xI_eq, xI_0, xI_ib, if_pos, if_neg, if_true, if_false, xI_cl, Int.toNat_natCast, iI_m, iI_a, iI_s, iI_1, xI_n, Option.bind_some, Int.natCast_add, Int.natCast_one, xI_zb, if_bI0, if_bI1, xI_rn, xI_ti, R8, h9])
  unfold f_X10_endOfBlanks
  refine Eq.trans s ?_
  show f_X10_endOfBlanks_2 _ _ = _
  rw [e_X10_endOfBlanks_2]
  by_cases c : bl b p < b.1
  · have hr := bl_at hp c
    have h9 := R9 _ c
    have hb2 := hb.2 (bl b p)
    generalize bl b p = m at *
    have hs2 := sby_b hb2
    have e32 : ¬ sby (b.2 m) = 32 := fun z => hr (by unfold sby at z; split at z <;> omega)
    have e10 : ¬ sby (b.2 m) = 10 := fun z => hr (by unfold sby at z; split at z <;> omega)
    simp (disch := omega) only [xI_le, xI_lt, xI_eq, xI_0, xI_ib, if_pos, if_neg, if_true, if_false, xI_cl, Int.toNat_natCast, iI_m, iI_a, iI_s, iI_1, xI_n, Option.bind_some, Int.natCast_add, Int.natCast_one, xI_zb, if_bI0, if_bI1, xI_rn, xI_ti, R8, h9]
  · simp (disch := omega) only [xI_le, xI_lt, xI_eq, xI_0, xI_ib, if_pos, if_neg, if_true, if_false, xI_cl, Int.toNat_natCast, iI_m, iI_a, iI_s, iI_1, xI_n, Option.bind_some, Int.natCast_add, Int.natCast_one, xI_zb, if_bI0, if_bI1, xI_rn, xI_ti, R8]
theorem k_byteAt (hb : bOk b) (R : cl_bf h b) {i : Nat} (hi : i < b.1) : f_X10_byteAt (iI i) h = some (iI (sby (b.2 i))) := by
  have hb1 := hb.1
  unfold f_X10_byteAt
  simp (disch := omega) only [xI_le, xI_lt, xI_eq, xI_0, xI_ib, if_pos, if_neg, if_true, if_false, xI_cl, Int.toNat_natCast, iI_m, iI_a, iI_s, iI_1, xI_n, Option.bind_some, Int.natCast_add, Int.natCast_one, xI_zb, if_bI0, if_bI1, xI_rn, xI_ti, k_isWithin (n := (i : Int)) (a := 0) (b := 499) (by omega) (by omega) (by omega), R.2 i hi]
theorem k_byteAny {i : Nat} (hi : i ≤ 500) : ∃ y, f_X10_byteAt (iI i) h = some y := by
  unfold f_X10_byteAt
  by_cases c : i ≤ 499
  · exact ⟨h.1 (.inl 1) 9 i, by simp (disch := omega) only [xI_le, xI_lt, xI_eq, xI_0, xI_ib, if_pos, if_neg, if_true, if_false, xI_cl, Int.toNat_natCast, iI_m, iI_a, iI_s, iI_1, xI_n, Option.bind_some, Int.natCast_add, Int.natCast_one, xI_zb, if_bI0, if_bI1, xI_rn, xI_ti, k_isWithin (n := (i : Int)) (a := 0) (b := 499) (by omega) (by omega) (by omega)]⟩
  · exact ⟨iI 0, by simp (disch := omega) only [xI_le, xI_lt, xI_eq, xI_0, xI_ib, if_pos, if_neg, if_true, if_false, xI_cl, Int.toNat_natCast, iI_m, iI_a, iI_s, iI_1, xI_n, Option.bind_some, Int.natCast_add, Int.natCast_one, xI_zb, if_bI0, if_bI1, xI_rn, xI_ti, k_isWithin (n := (i : Int)) (a := 0) (b := 499) (by omega) (by omega) (by omega)]⟩
theorem cl_t3 (R : cl_bf h b) (s e k : Nat) : cl_t0 (am_u (am_u (am_u h (.inl 1) 8 3 (iI s)) (.inl 1) 8 4 (iI e)) (.inl 1) 8 2 (iI k)) b (k, s, e) ∧ ∀ j, 5 ≤ j → (am_u (am_u (am_u h (.inl 1) 8 3 (iI s)) (.inl 1) 8 4 (iI e)) (.inl 1) 8 2 (iI k)).1 (.inl 1) 8 j = h.1 (.inl 1) 8 j := by
  refine ⟨⟨⟨?_, fun i hi => ?_⟩, ?_, ?_, ?_⟩, fun j hj => ?_⟩
  · rw [au_s, if_neg (by omega), au_s, if_neg (by omega), au_s, if_neg (by omega)]; exact R.1
  · rw [am_u_row (by simp), am_u_row (by simp), am_u_row (by simp)]; exact R.2 i hi
  · rw [au_s, if_pos rfl]
  · rw [au_s, if_neg (by omega), au_s, if_neg (by omega), au_s, if_pos rfl]
  · rw [au_s, if_neg (by omega), au_s, if_pos rfl]
  · rw [au_s, if_neg (by omega), au_s, if_neg (by omega), au_s, if_neg (by omega)]
theorem k_adv (hb : bOk b) (R : cl_bf h b) {p : Nat} (hp : p ≤ b.1) (R4 : h.1 (.inl 1) 8 4 = iI p) : ∃ h', f_X10_advance h = some h' ∧ cl_t0 h' b (tkA b p) ∧ ∀ j, 5 ≤ j → h'.1 (.inl 1) 8 j = h.1 (.inl 1) 8 j := by
  have hb1 := hb.1
  have hle := bl_le hp
  have e0 := k_blanks hb R hp
  have R1 : cl_bf (am_u h (.inl 1) 8 3 (iI (bl b p))) b := ⟨by rw [au_s, if_neg (by omega)]; exact R.1, fun i hi => by rw [am_u_row (by simp)]; exact R.2 i hi⟩
  obtain ⟨y, ey⟩ := k_byteAny (h := am_u h (.inl 1) 8 3 (iI (bl b p))) (i := bl b p) (by omega)
  have r3 : (am_u h (.inl 1) 8 3 (iI (bl b p))).1 (.inl 1) 8 3 = iI (bl b p) := by rw [au_s, if_pos rfl]
  have r1 : (am_u h (.inl 1) 8 3 (iI (bl b p))).1 (.inl 1) 8 1 = iI b.1 := R1.1
  unfold tkA tkS
  by_cases c : b.1 ≤ bl b p
  · rw [if_pos c]
    refine ⟨_, ?_, cl_t3 R (bl b p) b.1 0⟩
    unfold f_X10_advance
    generalize bl b p = s at *
    simp (disch := omega) only [xI_le, xI_lt, xI_eq, xI_0, xI_ib, if_pos, if_neg, if_true, if_false, xI_cl, Int.toNat_natCast, iI_m, iI_a, iI_s, iI_1, xI_n, Option.bind_some, Int.natCast_add, Int.natCast_one, xI_zb, if_bI0, if_bI1, xI_rn, xI_ti, R4, e0, am_lt, r3, ey, r1]
    rfl
  · rw [if_neg c]
    have hy := k_byteAt hb R1 (i := bl b p) (by omega)
    rw [hy] at ey
    have ey' := (Option.some.inj ey).symm
    subst ey'
    have hb2 := hb.2 (bl b p)
    have hs := sby_b hb2
    have w1 := sby_in (lo := 97) (hi := 122) hb2 (by omega) (by omega)
    have w2 := sby_in (lo := 48) (hi := 57) hb2 (by omega) (by omega)
    have k1 := k_isWithin (n := sby (b.2 (bl b p))) (a := 97) (b := 122) (by omega) (by omega) (by omega)
    have k2 := k_isWithin (n := sby (b.2 (bl b p))) (a := 48) (b := 57) (by omega) (by omega) (by omega)
    by_cases c1 : 97 ≤ b.2 (bl b p) ∧ b.2 (bl b p) ≤ 122
    · rw [if_pos c1]
      rw [show bI (97 ≤ sby (b.2 (bl b p)) ∧ sby (b.2 (bl b p)) ≤ 122) = 1 from if_pos (w1.mpr c1)] at k1
      have er := k_endOfRun (h := am_u h (.inl 1) 8 3 (iI (bl b p))) (n := b.1) (a := bl b p) (b := b.2) (lo := 97) (hi := 122) hb1 hb.2 R1.1 R1.2 (by omega) (by omega) hle.2
      have h1 := run_le b.2 97 122 hle.2
      refine ⟨_, ?_, cl_t3 R (bl b p) (run b.2 97 122 b.1 (bl b p)) (if run b.2 97 122 b.1 (bl b p) ≤ bl b p + 8 then 1 else 4)⟩
      generalize run b.2 97 122 b.1 (bl b p) = m at *
      unfold f_X10_advance
      generalize bl b p = s at *
      by_cases d : m ≤ s + 8
      · simp (disch := omega) only [xI_le, xI_lt, xI_eq, xI_0, xI_ib, if_pos, if_neg, if_true, if_false, xI_cl, Int.toNat_natCast, iI_m, iI_a, iI_s, iI_1, xI_n, Option.bind_some, Int.natCast_add, Int.natCast_one, xI_zb, if_bI0, if_bI1, xI_rn, xI_ti, R4, e0, am_lt, r3, hy, r1, k1, er, au_s, R.1]
      · simp (disch := omega) only [xI_le, xI_lt, xI_eq, xI_0, xI_ib, if_pos, if_neg, if_true, if_false, xI_cl, Int.toNat_natCast, iI_m, iI_a, iI_s, iI_1, xI_n, Option.bind_some, Int.natCast_add, Int.natCast_one, xI_zb, if_bI0, if_bI1, xI_rn, xI_ti, R4, e0, am_lt, r3, hy, r1, k1, er, au_s, R.1]
        rfl
    · rw [if_neg c1]
      rw [show bI (97 ≤ sby (b.2 (bl b p)) ∧ sby (b.2 (bl b p)) ≤ 122) = 0 from if_neg (fun z => c1 (w1.mp z))] at k1
      by_cases c2 : 48 ≤ b.2 (bl b p) ∧ b.2 (bl b p) ≤ 57
      · rw [if_pos c2]
        rw [show bI (48 ≤ sby (b.2 (bl b p)) ∧ sby (b.2 (bl b p)) ≤ 57) = 1 from if_pos (w2.mpr c2)] at k2
        have er := k_endOfRun (h := am_u h (.inl 1) 8 3 (iI (bl b p))) (n := b.1) (a := bl b p) (b := b.2) (lo := 48) (hi := 57) hb1 hb.2 R1.1 R1.2 (by omega) (by omega) hle.2
        have h1 := run_le b.2 48 57 hle.2
        refine ⟨_, ?_, cl_t3 R (bl b p) (run b.2 48 57 b.1 (bl b p)) (if run b.2 48 57 b.1 (bl b p) ≤ bl b p + 3 then 2 else 4)⟩
        generalize run b.2 48 57 b.1 (bl b p) = m at *
        unfold f_X10_advance
        generalize bl b p = s at *
        by_cases d : m ≤ s + 3
        · simp (disch := omega) only [xI_le, xI_lt, xI_eq, xI_0, xI_ib, if_pos, if_neg, if_true, if_false, xI_cl, Int.toNat_natCast, iI_m, iI_a, iI_s, iI_1, xI_n, Option.bind_some, Int.natCast_add, Int.natCast_one, xI_zb, if_bI0, if_bI1, xI_rn, xI_ti, R4, e0, am_lt, r3, hy, r1, k1, k2, er, au_s, R.1]
          rfl
        · simp (disch := omega) only [xI_le, xI_lt, xI_eq, xI_0, xI_ib, if_pos, if_neg, if_true, if_false, xI_cl, Int.toNat_natCast, iI_m, iI_a, iI_s, iI_1, xI_n, Option.bind_some, Int.natCast_add, Int.natCast_one, xI_zb, if_bI0, if_bI1, xI_rn, xI_ti, R4, e0, am_lt, r3, hy, r1, k1, k2, er, au_s, R.1]
          rfl
      · rw [if_neg c2]
        rw [show bI (48 ≤ sby (b.2 (bl b p)) ∧ sby (b.2 (bl b p)) ≤ 57) = 0 from if_neg (fun z => c2 (w2.mp z))] at k2
        refine ⟨_, ?_, cl_t3 R (bl b p) (bl b p + 1) (if b.2 (bl b p) = 59 ∨ b.2 (bl b p) = 40 ∨ b.2 (bl b p) = 41 then 3 else 4)⟩
        unfold f_X10_advance
        generalize bl b p = s at *
        by_cases d : b.2 s = 59 ∨ b.2 s = 40 ∨ b.2 s = 41
        · have hse := sby_e (b := b.2 s) (by omega)
          rw [hse] at hy k1 k2
          rw [if_pos d]
          rcases d with d | d | d
          · rw [d] at hy k1 k2
            simp (disch := omega) only [xI_le, xI_lt, xI_eq, xI_0, xI_ib, if_pos, if_neg, if_true, if_false, xI_cl, Int.toNat_natCast, iI_m, iI_a, iI_s, iI_1, xI_n, Option.bind_some, Int.natCast_add, Int.natCast_one, xI_zb, if_bI0, if_bI1, xI_rn, xI_ti, R4, e0, am_lt, r3, hy, r1, k1, k2]
            rfl
          · rw [d] at hy k1 k2
            simp (disch := omega) only [xI_le, xI_lt, xI_eq, xI_0, xI_ib, if_pos, if_neg, if_true, if_false, xI_cl, Int.toNat_natCast, iI_m, iI_a, iI_s, iI_1, xI_n, Option.bind_some, Int.natCast_add, Int.natCast_one, xI_zb, if_bI0, if_bI1, xI_rn, xI_ti, R4, e0, am_lt, r3, hy, r1, k1, k2]
            rfl
          · rw [d] at hy k1 k2
            simp (disch := omega) only [xI_le, xI_lt, xI_eq, xI_0, xI_ib, if_pos, if_neg, if_true, if_false, xI_cl, Int.toNat_natCast, iI_m, iI_a, iI_s, iI_1, xI_n, Option.bind_some, Int.natCast_add, Int.natCast_one, xI_zb, if_bI0, if_bI1, xI_rn, xI_ti, R4, e0, am_lt, r3, hy, r1, k1, k2]
            rfl
        · have n1 : ¬ sby (b.2 s) = 59 := fun z => d (by unfold sby at z; split at z <;> omega)
          have n2 : ¬ sby (b.2 s) = 40 := fun z => d (by unfold sby at z; split at z <;> omega)
          have n3 : ¬ sby (b.2 s) = 41 := fun z => d (by unfold sby at z; split at z <;> omega)
          rw [if_neg d]
          simp (disch := omega) only [xI_le, xI_lt, xI_eq, xI_0, xI_ib, if_pos, if_neg, if_true, if_false, xI_cl, Int.toNat_natCast, iI_m, iI_a, iI_s, iI_1, xI_n, Option.bind_some, Int.natCast_add, Int.natCast_one, xI_zb, if_bI0, if_bI1, xI_rn, xI_ti, R4, e0, am_lt, r3, hy, r1, k1, k2]
          rfl
theorem k_advance (hb : bOk b) {T : Tk} (hT : tk_ok b T) (R : cl_tk h b T) : ∃ h', f_X10_advance h = some h' ∧ cl_tk h' b (tkA b T.2.2) ∧ h'.1 (.inl 1) 8 5 = h.1 (.inl 1) 8 5 := by
  obtain ⟨h', e, t, k⟩ := k_adv hb R.1.1 hT.2.2.1 R.1.2.2.2
  exact ⟨h', e, ⟨t, by rw [k 6 (by omega)]; exact R.2.1, by rw [k 7 (by omega)]; exact R.2.2⟩, k 5 (by omega)⟩
end TOK
