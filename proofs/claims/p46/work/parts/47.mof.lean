/-! flourishes of the reference; their worth -/
theorem cN_all {p : Nat → Bool} : ∀ {m : Nat}, cN p m = m → ∀ i, i < m → p i = true
  | 0, _, i, h => by omega
  | m + 1, h, i, hi => by
    have hl := cN_le p m
    by_cases c : p m = true
    · rw [cN_t c] at h
      by_cases e : i = m
      · subst e; exact c
      · exact cN_all (m := m) (by omega) i (by omega)
    · rw [cN_f (by simpa using c)] at h
      omega
def pv_wo (v : pv_T) (f : fs_T) : Nat → Int
  | 0 => 0
  | i + 1 => if f.2.1 i = -1 then pv_wo v f i else pv_wo v f i + v.2 10 (f.2.1 i).toNat
section MOF
variable {h : am_H} {k : Nat} {v : pv_T}
theorem k_worthOfFillings (hv : pv_ok v) (P : cl_pl h k v) (Rl : cl_lay h v) {f : fs_T} (Rf : cl_fs h v f) (hf : ∀ i, -1 ≤ f.2.1 i ∧ f.2.1 i < v.1 2) : f_X3_worthOfFillings k h = some (iI (pv_wo v f (v.1 1 + 1))) := by
  have h8 := hv.1
  have s := ch_to (fun i : Nat => f_X3_worthOfFillings_4 k (iI (pv_wo v f i)) (iI i) h) (Nat.zero_le (v.1 1 + 1)) (fun i _ hi => by
    show f_X3_worthOfFillings_4 _ _ _ _ = f_X3_worthOfFillings_4 _ _ _ _
    have r1 := (Rf.1 i (by omega)).2
    have hb := hf i
    rw [e_X3_worthOfFillings_4]
    by_cases c : f.2.1 i = -1
    · rw [show pv_wo v f (i + 1) = pv_wo v f i from if_pos c]
      simp (disch := omega) only [xI_le, xI_lt, xI_eq, xI_0, xI_ib, if_pos, if_neg, if_true, if_false, xI_cl, Int.toNat_natCast, iI_m, iI_a, iI_s, iI_1, xI_n, Option.bind_some, Int.natCast_add, Int.natCast_one, xI_zb, if_bI0, if_bI1, xI_rn, xI_ti, Rl.1, r1]
    · rw [show pv_wo v f (i + 1) = pv_wo v f i + v.2 10 (f.2.1 i).toNat from if_neg c]
      simp (disch := omega) only [xI_le, xI_lt, xI_eq, xI_0, xI_ib, if_pos, if_neg, if_true, if_false, xI_cl, Int.toNat_natCast, iI_m, iI_a, iI_s, iI_1, xI_n, Option.bind_some, Int.natCast_add, Int.natCast_one, xI_zb, if_bI0, if_bI1, xI_rn, xI_ti, Rl.1, r1, (P.2.2.1.2.1 (f.2.1 i).toNat (by omega)).2.1])
  refine Eq.trans s ?_
  show f_X3_worthOfFillings_4 _ _ _ _ = _
  rw [e_X3_worthOfFillings_4]
  simp (disch := omega) only [xI_le, xI_lt, xI_eq, xI_0, xI_ib, if_pos, if_neg, if_true, if_false, xI_cl, Int.toNat_natCast, iI_m, iI_a, iI_s, iI_1, xI_n, Option.bind_some, Int.natCast_add, Int.natCast_one, xI_zb, if_bI0, if_bI1, xI_rn, xI_ti, Rl.1]
end MOF
