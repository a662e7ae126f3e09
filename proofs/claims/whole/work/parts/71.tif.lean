/-! tightestIf -/
def run (b : Nat → Int) (lo hi : Int) (n a : Nat) : Nat := pv_fst (fun i => decide (¬ (lo ≤ b i ∧ b i ≤ hi))) (n - a) a
theorem run_le (b : Nat → Int) (lo hi : Int) {n a : Nat} (h : a ≤ n) : a ≤ run b lo hi n a ∧ run b lo hi n a ≤ n := by
  have := pv_fst_le (fun i => decide (¬ (lo ≤ b i ∧ b i ≤ hi))) (n - a) a
  unfold run
  omega
theorem run_in {b : Nat → Int} {lo hi : Int} {n a j : Nat} (h1 : a ≤ j) (h2 : j < run b lo hi n a) : lo ≤ b j ∧ b j ≤ hi := by
  have := pv_fst_lt (fun i => decide (¬ (lo ≤ b i ∧ b i ≤ hi))) (n - a) a j h1 h2
  simpa using this
theorem run_at {b : Nat → Int} {lo hi : Int} {n a : Nat} (h : a ≤ n) (h2 : run b lo hi n a < n) : ¬ (lo ≤ b (run b lo hi n a) ∧ b (run b lo hi n a) ≤ hi) := by
  have := pv_fst_at (fun i => decide (¬ (lo ≤ b i ∧ b i ≤ hi))) (n - a) a (by unfold run at h2; omega)
  exact of_decide_eq_true this
theorem sby_in {b lo hi : Int} (hb : 0 ≤ b ∧ b ≤ 255) (h1 : 0 ≤ lo) (h2 : hi ≤ 127) : (lo ≤ sby b ∧ sby b ≤ hi) ↔ (lo ≤ b ∧ b ≤ hi) := by
  unfold sby; split <;> omega
theorem sby_b {b : Int} (hb : 0 ≤ b ∧ b ≤ 255) : -128 ≤ sby b ∧ sby b ≤ 127 := by unfold sby; split <;> omega
theorem sby_e {b : Int} (hb : b ≤ 127) : sby b = b := if_pos (by omega)
/-- a word of letters in the buffer -/
abbrev plain (b : Nat × (Nat → Int)) : Prop := 1 ≤ b.1 ∧ b.1 ≤ 8 ∧ run b.2 97 122 b.1 0 = b.1
theorem plain_in {b : Nat × (Nat → Int)} (h : plain b) {i : Nat} (hi : i < b.1) : 97 ≤ b.2 i ∧ b.2 i ≤ 122 := run_in (Nat.zero_le i) (by rw [h.2.2]; exact hi)
/-- only these letters, and no scratch -/
def wrdA (v : pv_T) (n : Nat) (b : Nat → Int) : pv_T := (fun k => if k = 1 then n else if k = 3 then 0 else v.1 k, fun c i => if c = 5 then b i - 97 else if c = 6 then 0 else if c = 7 then 0 else v.2 c i)
theorem wrdA_o {v : pv_T} {n : Nat} {b : Nat → Int} {c i : Nat} (h5 : c ≠ 5) (h6 : c ≠ 6) (h7 : c ≠ 7) : (wrdA v n b).2 c i = v.2 c i := (if_neg h5).trans ((if_neg h6).trans (if_neg h7))
theorem wrdA_ok {v : pv_T} {n : Nat} {b : Nat → Int} (hv : pv_ok v) (hn : n ≤ 8) (hb : ∀ i, i < n → 97 ≤ b i ∧ b i ≤ 122) : pv_ok (wrdA v n b) := by
  obtain ⟨⟨a0, a1, a2, a3⟩, h2, h3, h4, h5, h6, h7⟩ := hv
  refine ⟨⟨a0, ?_, a2, Nat.zero_le 44⟩, h2, fun i hi => ?_, h4, h5, fun i hi => absurd hi (Nat.not_lt_zero i), h7⟩
  · show n ≤ 20; omega
  · have hi' : i < n := hi
    have := hb i hi'
    show 0 ≤ b i - 97 ∧ b i - 97 ≤ 25 ∧ (0 : Int) ≤ 0 ∧ (0 : Int) ≤ 1 ∧ (0 : Int) ≤ 0 ∧ (0 : Int) ≤ 3
    omega
def tifV (st : St) : Int := pv_rm (wrdA st.1 st.2.2.2.1.1 st.2.2.2.1.2) (pv_ti (wrdA st.1 st.2.2.2.1.1 st.2.2.2.1.2) (st.2.2.2.1.1 + 1))
def oTi (st : St) : Int32 ⊕ Nat := if plain st.2.2.2.1 then .inl (iI (tifV st)) else .inr 1
def sE (st : St) : St := stB st (0, st.2.2.2.1.2) st.2.2.2.2.1
section TIF
variable {h : am_H} {st : St}
theorem sE_ok (ok : Ok st) : Ok (sE st) := ⟨ok.1, ok.2.1, ok.2.2.1, ⟨Nat.zero_le 500, ok.2.2.2.1.2⟩, ok.2.2.2.2⟩
theorem k_endOfRun {n a : Nat} {b : Nat → Int} {lo hi : Int} (hn : n ≤ 500) (hb : ∀ i, 0 ≤ b i ∧ b i ≤ 255) (R8 : h.1 (.inl 1) 8 1 = iI n) (R9 : ∀ i, i < n → h.1 (.inl 1) 9 i = iI (sby (b i))) (hl : 0 ≤ lo ∧ lo ≤ 127) (hh : 0 ≤ hi ∧ hi ≤ 127) (ha : a ≤ n) : f_X10_endOfRun (iI a) (iI lo) (iI hi) h = some (iI (run b lo hi n a)) := by
  have hle := run_le b lo hi ha
  have s := ch_to (fun i : Nat => f_X10_endOfRun_3 (iI lo) (iI hi) (iI i) h) hle.1 (fun i h1 h2 => by
    show f_X10_endOfRun_3 _ _ _ _ = f_X10_endOfRun_3 _ _ _ _
    have hr := run_in h1 h2
    have hs := (sby_in (hb i) hl.1 hh.2).mpr hr
    have hs2 := sby_b (hb i)
    rw [e_X10_endOfRun_3]
    simp (disch := omega) only [xI_le, xI_lt, xI_eq, xI_0, xI_ib, if_pos, if_neg, if_true, if_false, xI_cl, Int.toNat_natCast, iI_m, iI_a, iI_s, iI_1, xI_n, Option.bind_some, Int.natCast_add, Int.natCast_one, xI_zb, if_bI0, if_bI1, xI_rn, xI_ti, R8, R9 i (by omega)])
  refine Eq.trans s ?_
  show f_X10_endOfRun_3 _ _ _ _ = _
  rw [e_X10_endOfRun_3]
  by_cases c : run b lo hi n a < n
  · have hr := run_at ha c
    generalize run b lo hi n a = m at *
    have hs : ¬ (lo ≤ sby (b m) ∧ sby (b m) ≤ hi) := fun z => hr ((sby_in (hb m) hl.1 hh.2).mp z)
    have hs2 := sby_b (hb m)
    by_cases d : sby (b m) < lo
    · simp (disch := omega) only [xI_le, xI_lt, xI_eq, xI_0, xI_ib, if_pos, if_neg, if_true, if_false, xI_cl, Int.toNat_natCast, iI_m, iI_a, iI_s, iI_1, xI_n, Option.bind_some, Int.natCast_add, Int.natCast_one, xI_zb, if_bI0, if_bI1, xI_rn, xI_ti, R8, R9 m c]
    · simp (disch := omega) only [xI_le, xI_lt, xI_eq, xI_0, xI_ib, if_pos, if_neg, if_true, if_false, xI_cl, Int.toNat_natCast, iI_m, iI_a, iI_s, iI_1, xI_n, Option.bind_some, Int.natCast_add, Int.natCast_one, xI_zb, if_bI0, if_bI1, xI_rn, xI_ti, R8, R9 m c]
  · simp (disch := omega) only [xI_le, xI_lt, xI_eq, xI_0, xI_ib, if_pos, if_neg, if_true, if_false, xI_cl, Int.toNat_natCast, iI_m, iI_a, iI_s, iI_1, xI_n, Option.bind_some, Int.natCast_add, Int.natCast_one, xI_zb, if_bI0, if_bI1, xI_rn, xI_ti, R8]
theorem k_isOneWord (ok : Ok st) (R : ClR h st) : f_X10_isOneWord h = some (iI (bI (plain st.2.2.2.1))) := by
  have hb := ok.2.2.2.1
  have r8 := R.2.2.2.1.1
  have e := k_endOfRun (h := h) (a := 0) (lo := 97) (hi := 122) hb.1 hb.2 r8 R.2.2.2.1.2 (by omega) (by omega) (Nat.zero_le _)
  have e' : f_X10_endOfRun (iI 0) (iI 97) (iI 122) h = some (iI (run st.2.2.2.1.2 97 122 st.2.2.2.1.1 0)) := e
  have hle := run_le st.2.2.2.1.2 97 122 (Nat.zero_le st.2.2.2.1.1)
  unfold f_X10_isOneWord
  by_cases c : 1 ≤ st.2.2.2.1.1 ∧ st.2.2.2.1.1 ≤ 8
  · by_cases d : run st.2.2.2.1.2 97 122 st.2.2.2.1.1 0 = st.2.2.2.1.1
    · rw [show bI (plain st.2.2.2.1) = 1 from if_pos ⟨c.1, c.2, d⟩]
      simp (disch := omega) only [xI_le, xI_lt, xI_eq, xI_0, xI_ib, if_pos, if_neg, if_true, if_false, xI_cl, Int.toNat_natCast, iI_m, iI_a, iI_s, iI_1, xI_n, Option.bind_some, Int.natCast_add, Int.natCast_one, xI_zb, if_bI0, if_bI1, xI_rn, xI_ti, r8, k_isWithin (n := (st.2.2.2.1.1 : Int)) (a := 1) (b := 8) (by omega) (by omega) (by omega), e']
    · rw [show bI (plain st.2.2.2.1) = 0 from if_neg (fun z => d z.2.2)]
      simp (disch := omega) only [xI_le, xI_lt, xI_eq, xI_0, xI_ib, if_pos, if_neg, if_true, if_false, xI_cl, Int.toNat_natCast, iI_m, iI_a, iI_s, iI_1, xI_n, Option.bind_some, Int.natCast_add, Int.natCast_one, xI_zb, if_bI0, if_bI1, xI_rn, xI_ti, r8, k_isWithin (n := (st.2.2.2.1.1 : Int)) (a := 1) (b := 8) (by omega) (by omega) (by omega), e']
  · rw [show bI (plain st.2.2.2.1) = 0 from if_neg (fun z => c ⟨z.1, z.2.1⟩)]
    simp (disch := omega) only [xI_le, xI_lt, xI_eq, xI_0, xI_ib, if_pos, if_neg, if_true, if_false, xI_cl, Int.toNat_natCast, iI_m, iI_a, iI_s, iI_1, xI_n, Option.bind_some, Int.natCast_add, Int.natCast_one, xI_zb, if_bI0, if_bI1, xI_rn, xI_ti, r8, k_isWithin (n := (st.2.2.2.1.1 : Int)) (a := 1) (b := 8) (by omega) (by omega) (by omega)]
theorem m_isLet {x : Int} (hx : -2147483648 ≤ x ∧ x < 2147483648) : f_X12_isLetter (iI x) = some (iI (bI (97 ≤ x ∧ x ≤ 122))) := by
  unfold f_X12_isLetter bI
  by_cases c : x < 97
  · rw [if_neg (show ¬ (97 ≤ x ∧ x ≤ 122) by omega)]; simp (disch := omega) only [xI_le, xI_lt, xI_eq, xI_0, xI_ib, if_pos, if_neg, if_true, if_false, xI_cl, Int.toNat_natCast, iI_m, iI_a, iI_s, iI_1, xI_n, Option.bind_some, Int.natCast_add, Int.natCast_one, xI_zb, if_bI0, if_bI1, xI_rn, xI_ti]
  · by_cases d : 122 < x
    · rw [if_neg (show ¬ (97 ≤ x ∧ x ≤ 122) by omega)]; simp (disch := omega) only [xI_le, xI_lt, xI_eq, xI_0, xI_ib, if_pos, if_neg, if_true, if_false, xI_cl, Int.toNat_natCast, iI_m, iI_a, iI_s, iI_1, xI_n, Option.bind_some, Int.natCast_add, Int.natCast_one, xI_zb, if_bI0, if_bI1, xI_rn, xI_ti]
    · rw [if_pos (show (97 ≤ x ∧ x ≤ 122) by omega)]; simp (disch := omega) only [xI_le, xI_lt, xI_eq, xI_0, xI_ib, if_pos, if_neg, if_true, if_false, xI_cl, Int.toNat_natCast, iI_m, iI_a, iI_s, iI_1, xI_n, Option.bind_some, Int.natCast_add, Int.natCast_one, xI_zb, if_bI0, if_bI1, xI_rn, xI_ti]
theorem m_isPlainWord (ok : Ok st) (R : MoR h st) : f_X12_isPlainWord h = some (iI (bI (plain st.2.2.2.1))) := by
  have hb := ok.2.2.2.1
  obtain ⟨r8, r9⟩ := R.2.2.2.1
  have hle := run_le st.2.2.2.1.2 97 122 (Nat.zero_le st.2.2.2.1.1)
  unfold f_X12_isPlainWord
  have e0 : f_X12_isIn (iI (st.2.2.2.1.1 : Int)).toInt64 (1 : Int64) (8 : Int64) = some (iI (bI (1 ≤ (st.2.2.2.1.1 : Int) ∧ (st.2.2.2.1.1 : Int) ≤ 8))) := by
    rw [m_isIn, xL_i (by omega) (by omega)]; rfl
  have zt : zb (iI 1) := by rw [show (1 : Int) = bI True from rfl, xI_zb]; trivial
  have zf : zb (iI 0) := by rw [show (0 : Int) = bI False from rfl, xI_zb]; trivial
  rw [r8, e0, Option.bind_some]
  by_cases c : 1 ≤ st.2.2.2.1.1 ∧ st.2.2.2.1.1 ≤ 8
  · rw [show bI (1 ≤ (st.2.2.2.1.1 : Int) ∧ (st.2.2.2.1.1 : Int) ≤ 8) = 1 from if_pos (by omega)]
    have s := ch_to (fun i : Nat => f_X12_isPlainWord_15 (iI 1) (iI i) h) hle.1 (fun i h1 h2 => by
      show f_X12_isPlainWord_15 _ _ _ = f_X12_isPlainWord_15 _ _ _
      have hr := run_in h1 h2
      have el := m_isLet (x := st.2.2.2.1.2 i) (by omega)
      rw [show bI (97 ≤ st.2.2.2.1.2 i ∧ st.2.2.2.1.2 i ≤ 122) = 1 from if_pos hr] at el
      rw [e_X12_isPlainWord_15]
      simp (disch := omega) only [xI_le, xI_lt, xI_eq, xI_0, xI_ib, if_pos, if_neg, if_true, if_false, xI_cl, Int.toNat_natCast, iI_m, iI_a, iI_s, iI_1, xI_n, Option.bind_some, Int.natCast_add, Int.natCast_one, xI_zb, if_bI0, if_bI1, xI_rn, xI_ti, r8, r9 i (by omega), el])
    refine Eq.trans (show f_X12_isPlainWord_15 (iI 1) (iI 0) h = f_X12_isPlainWord_15 (iI 1) (iI ((0 : Nat) : Int)) h from rfl) (Eq.trans s ?_)
    show f_X12_isPlainWord_15 _ _ _ = _
    by_cases d : run st.2.2.2.1.2 97 122 st.2.2.2.1.1 0 = st.2.2.2.1.1
    · rw [show bI (plain st.2.2.2.1) = 1 from if_pos ⟨c.1, c.2, d⟩, e_X12_isPlainWord_15]
      simp (disch := omega) only [xI_le, xI_lt, xI_eq, xI_0, xI_ib, if_pos, if_neg, if_true, if_false, xI_cl, Int.toNat_natCast, iI_m, iI_a, iI_s, iI_1, xI_n, Option.bind_some, Int.natCast_add, Int.natCast_one, xI_zb, if_bI0, if_bI1, xI_rn, xI_ti, r8, if_pos zt]
    · rw [show bI (plain st.2.2.2.1) = 0 from if_neg (fun z => d z.2.2), e_X12_isPlainWord_15]
      have hr := run_at (Nat.zero_le st.2.2.2.1.1) (lo := 97) (hi := 122) (b := st.2.2.2.1.2) (by omega)
      generalize run st.2.2.2.1.2 97 122 st.2.2.2.1.1 0 = m at *
      have hbm := hb.2 m
      have el := m_isLet (x := st.2.2.2.1.2 m) (by omega)
      rw [show bI (97 ≤ st.2.2.2.1.2 m ∧ st.2.2.2.1.2 m ≤ 122) = 0 from if_neg hr] at el
      simp (disch := omega) only [xI_le, xI_lt, xI_eq, xI_0, xI_ib, if_pos, if_neg, if_true, if_false, xI_cl, Int.toNat_natCast, iI_m, iI_a, iI_s, iI_1, xI_n, Option.bind_some, Int.natCast_add, Int.natCast_one, xI_zb, if_bI0, if_bI1, xI_rn, xI_ti, r8, r9 m (by omega), el]
      rw [e_X12_isPlainWord_15]
      by_cases q : st.2.2.2.1.1 ≤ m + 1
      · simp (disch := omega) only [xI_le, xI_lt, xI_eq, xI_0, xI_ib, if_pos, if_neg, if_true, if_false, xI_cl, Int.toNat_natCast, iI_m, iI_a, iI_s, iI_1, xI_n, Option.bind_some, Int.natCast_add, Int.natCast_one, xI_zb, if_bI0, if_bI1, xI_rn, xI_ti, r8, if_pos zf]
      · simp (disch := omega) only [xI_le, xI_lt, xI_eq, xI_0, xI_ib, if_pos, if_neg, if_true, if_false, xI_cl, Int.toNat_natCast, iI_m, iI_a, iI_s, iI_1, xI_n, Option.bind_some, Int.natCast_add, Int.natCast_one, xI_zb, if_bI0, if_bI1, xI_rn, xI_ti, r8, if_pos zf]
  · rw [show bI (1 ≤ (st.2.2.2.1.1 : Int) ∧ (st.2.2.2.1.1 : Int) ≤ 8) = 0 from if_neg (by omega), show bI (plain st.2.2.2.1) = 0 from if_neg (fun z => c ⟨z.1, z.2.1⟩)]
    rw [e_X12_isPlainWord_15]
    by_cases q : st.2.2.2.1.1 ≤ 0
    · simp (disch := omega) only [xI_le, xI_lt, xI_eq, xI_0, xI_ib, if_pos, if_neg, if_true, if_false, xI_cl, Int.toNat_natCast, iI_m, iI_a, iI_s, iI_1, xI_n, Option.bind_some, Int.natCast_add, Int.natCast_one, xI_zb, if_bI0, if_bI1, xI_rn, xI_ti, r8, if_pos zf]
    · simp (disch := omega) only [xI_le, xI_lt, xI_eq, xI_0, xI_ib, if_pos, if_neg, if_true, if_false, xI_cl, Int.toNat_natCast, iI_m, iI_a, iI_s, iI_1, xI_n, Option.bind_some, Int.natCast_add, Int.natCast_one, xI_zb, if_bI0, if_bI1, xI_rn, xI_ti, r8, if_pos zf]
theorem k_placeAt {n i : Nat} {b : Nat → Int} (hi : i < n) (hn : n ≤ 500) (hb : 97 ≤ b i ∧ b i ≤ 122) (R9 : ∀ i, i < n → h.1 (.inl 1) 9 i = iI (sby (b i))) : f_X10_placeAt (iI i) h = some (iI (b i - 97)) := by
  unfold f_X10_placeAt f_X10_byteAt
  simp (disch := omega) only [xI_le, xI_lt, xI_eq, xI_0, xI_ib, if_pos, if_neg, if_true, if_false, xI_cl, Int.toNat_natCast, iI_m, iI_a, iI_s, iI_1, xI_n, Option.bind_some, Int.natCast_add, Int.natCast_one, xI_zb, if_bI0, if_bI1, xI_rn, xI_ti, k_isWithin (n := (i : Int)) (a := 0) (b := 499) (by omega) (by omega) (by omega), R9 i hi, sby_e (b := b i) (by omega)]
end TIF
