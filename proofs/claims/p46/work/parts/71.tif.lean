/-! tightestIf -/
def run (b : Nat → Int) (lo hi : Int) (n a : Nat) : Nat := pv_fst (fun i => decide (¬ (lo ≤ b i ∧ b i ≤ hi))) (n - a) a
theorem run_le (b : Nat → Int) (lo hi : Int) {n a : Nat} (h : a ≤ n) : a ≤ run b lo hi n a ∧ run b lo hi n a ≤ n := by
  have := pv_fst_le (fun i => decide (¬ (lo ≤ b i ∧ b i ≤ hi))) (n - a) a
  unfold run
  omega
theorem run_in {b : Nat → Int} {lo hi : Int} {n a j : Nat} (h1 : a ≤ j) (h2 : j < run b lo hi n a) : lo ≤ b j ∧ b j ≤ hi := by
  have := pv_fst_lt (fun i => decide (¬ (lo ≤ b i ∧ b i ≤ hi))) (n - a) a j h1 h2
  simpa using this
theorem run_at {b : Nat → Int} {lo hi : Int} {n a : Nat} (h : a ≤ n) (h2 : run b lo hi n a < n) : ¬ (lo ≤ b (run b lo hi n a) ∧ b (run b lo hi n a) ≤ hi) := by
  have := pv_fst_at (fun i => decide (¬ (lo ≤ b i ∧ b i ≤ hi))) (n - a) a (by unfold run at h2; omega)
  exact of_decide_eq_true this
theorem sby_in {b lo hi : Int} (hb : 0 ≤ b ∧ b ≤ 255) (h1 : 0 ≤ lo) (h2 : hi ≤ 127) : (lo ≤ sby b ∧ sby b ≤ hi) ↔ (lo ≤ b ∧ b ≤ hi) := by
  unfold sby; split <;> omega
theorem sby_b {b : Int} (hb : 0 ≤ b ∧ b ≤ 255) : -128 ≤ sby b ∧ sby b ≤ 127 := by unfold sby; split <;> omega
theorem sby_e {b : Int} (hb : b ≤ 127) : sby b = b := if_pos (by omega)
/-- a word of letters in the buffer -/
abbrev plain (b : Nat × (Nat → Int)) : Prop := 1 ≤ b.1 ∧ b.1 ≤ 8 ∧ run b.2 97 122 b.1 0 = b.1
theorem plain_in {b : Nat × (Nat → Int)} (h : plain b) {i : Nat} (hi : i < b.1) : 97 ≤ b.2 i ∧ b.2 i ≤ 122 := run_in (Nat.zero_le i) (by rw [h.2.2]; exact hi)
/-- only these letters, and no scratch -/
def wrdA (v : pv_T) (n : Nat) (b : Nat → Int) : pv_T := (fun k => if k = 1 then n else if k = 3 then 0 else v.1 k, fun c i => if c = 5 then b i - 97 else if c = 6 then 0 else if c = 7 then 0 else v.2 c i)
theorem wrdA_o {v : pv_T} {n : Nat} {b : Nat → Int} {c i : Nat} (h5 : c ≠ 5) (h6 : c ≠ 6) (h7 : c ≠ 7) : (wrdA v n b).2 c i = v.2 c i := (if_neg h5).trans ((if_neg h6).trans (if_neg h7))
theorem wrdA_ok {v : pv_T} {n : Nat} {b : Nat → Int} (hv : pv_ok v) (hn : n ≤ 8) (hb : ∀ i, i < n → 97 ≤ b i ∧ b i ≤ 122) : pv_ok (wrdA v n b) := by
  obtain ⟨⟨a0, a1, a2, a3⟩, h2, h3, h4, h5, h6, h7⟩ := hv
  refine ⟨⟨a0, ?_, a2, Nat.zero_le 44⟩, h2, fun i hi => ?_, h4, h5, fun i hi => absurd hi (Nat.not_lt_zero i), h7⟩
  · show n ≤ 20; omega
  · have hi' : i < n := hi
    have := hb i hi'
    show 0 ≤ b i - 97 ∧ b i - 97 ≤ 25 ∧ (0 : Int) ≤ 0 ∧ (0 : Int) ≤ 1 ∧ (0 : Int) ≤ 0 ∧ (0 : Int) ≤ 3
    omega
def tifV (st : St) : Int := pv_rm (wrdA st.1 st.2.2.2.1.1 st.2.2.2.1.2) (pv_ti (wrdA st.1 st.2.2.2.1.1 st.2.2.2.1.2) (st.2.2.2.1.1 + 1))
def oTi (st : St) : Int32 ⊕ Nat := if plain st.2.2.2.1 then .inl (iI (tifV st)) else .inr 1
def sE (st : St) : St := stB st (0, st.2.2.2.1.2) st.2.2.2.2.1
section TIF
variable {h : am_H} {st : St}
theorem sE_ok (ok : Ok st) : Ok (sE st) := ⟨ok.1, ok.2.1, ok.2.2.1, ⟨Nat.zero_le 500, ok.2.2.2.1.2⟩, ok.2.2.2.2⟩
theorem k_endOfRun {n a : Nat} {b : Nat → Int} {lo hi : Int} (hn : n ≤ 500) (hb : ∀ i, 0 ≤ b i ∧ b i ≤ 255) (R8 : h.1 (.inl 1) 8 1 = iI n) (R9 : ∀ i, i < n → h.1 (.inl 1) 9 i = iI (sby (b i))) (hl : 0 ≤ lo ∧ lo ≤ 127) (hh : 0 ≤ hi ∧ hi ≤ 127) (ha : a ≤ n) : f_X10_endOfRun (iI a) (iI lo) (iI hi) h = some (iI (run b lo hi n a)) := by
  have hle := run_le b lo hi ha
  have s := ch_to (fun i : Nat => f_X10_endOfRun_3 (iI lo) (iI hi) (iI i) h) hle.1 (fun i h1 h2 => by
    show f_X10_endOfRun_3 _ _ _ _ = f_X10_endOfRun_3 _ _ _ _
    have hr := run_in h1 h2
    have hs := (sby_in (hb i) hl.1 hh.2).mpr hr
    have hs2 := sby_b (hb i)
    rw [e_X10_endOfRun_3]
    simp (disch := omega) only [xI_le, xI_lt, xI_eq, xI_0, xI_ib, if_pos, if_neg, if_true, if_false, xI_cl, Int.toNat_natCast, iI_m, iI_a, iI_s, iI_1, xI_n, Option.bind_some, Int.natCast_add, Int.natCast_one, xI_zb, if_bI0, if_bI1, xI_rn, xI_ti, R8, R9 i (by omega)])
  refine Eq.trans s ?_
  show f_X10_endOfRun_3 _ _ _ _ = _
  rw [e_X10_endOfRun_3]
  by_cases c : run b lo hi n a < n
  · have hr := run_at ha c
    generalize run b lo hi n a = m at *
    have hs : ¬ (lo ≤ sby (b m) ∧ sby (b m) ≤ hi) := fun z => hr ((sby_in (hb m) hl.1 hh.2).mp z)
    have hs2 := sby_b (hb m)
    by_cases d : sby (b m) < lo
    · simp (disch := omega) only [xI_le, xI_lt, xI_eq, xI_0, xI_ib, if_pos, if_neg, if_true, if_false, xI_cl, Int.toNat_natCast, iI_m, iI_a, iI_s, iI_1, xI_n, Option.bind_some, Int.natCast_add, Int.natCast_one, xI_zb, if_bI0, if_bI1, xI_rn, xI_ti, R8, R9 m c]
    · simp (disch := omega) only [xI_le, xI_lt, xI_eq, xI_0, xI_ib, if_pos, if_neg, if_true, if_false, xI_cl, Int.toNat_natCast, iI_m, iI_a, iI_s, iI_1, xI_n, Option.bind_some, Int.natCast_add, Int.natCast_one, xI_zb, if_bI0, if_bI1, xI_rn, xI_ti, R8, R9 m c]
  · simp (disch := omega) only [xI_le, xI_lt, xI_eq, xI_0, xI_ib, if_pos, if_neg, if_true, if_false, xI_cl, Int.toNat_natCast, iI_m, iI_a, iI_s, iI_1, xI_n, Option.bind_some, Int.natCast_add, Int.natCast_one, xI_zb, if_bI0, if_bI1, xI_rn, xI_ti, R8]
theorem k_placeAt {n i : Nat} {b : Nat → Int} (hi : i < n) (hn : n ≤ 500) (hb : 97 ≤ b i ∧ b i ≤ 122) (R9 : ∀ i, i < n → h.1 (.inl 1) 9 i = iI (sby (b i))) : f_X10_placeAt (iI i) h = some (iI (b i - 97)) := by
  unfold f_X10_placeAt f_X10_byteAt
  simp (disch := omega) only [xI_le, xI_lt, xI_eq, xI_0, xI_ib, if_pos, if_neg, if_true, if_false, xI_cl, Int.toNat_natCast, iI_m, iI_a, iI_s, iI_1, xI_n, Option.bind_some, Int.natCast_add, Int.natCast_one, xI_zb, if_bI0, if_bI1, xI_rn, xI_ti, k_isWithin (n := (i : Int)) (a := 0) (b := 499) (by omega) (by omega) (by omega), R9 i hi, sby_e (b := b i) (by omega)]
end TIF
