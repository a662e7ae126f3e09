/-! means -/
section MEA
variable {h : am_H} {st : St} {L : Nat} {xs : Nat → Int32} {x4 : Int32}
theorem pv_wP_0 {v : pv_T} (hv : pv_ok v) : pv_wP v ≤ 0 ↔ v.1 0 = 0 := by
  constructor
  · intro h
    refine Nat.eq_zero_of_not_pos (fun hp => ?_)
    have h1 := pv_pA_mono hv (i := 1) (j := v.1 0) hp (Nat.le_refl _)
    have h2 := hv.2.1 0 hp
    have h3 : pv_pA v 1 = v.2 1 0 * (10 * v.2 2 0) := by show 0 + v.2 1 0 * (10 * v.2 2 0) = _; omega
    have h4 : 1 * (10 * v.2 2 0) ≤ v.2 1 0 * (10 * v.2 2 0) := Int.mul_le_mul_of_nonneg_right (by omega) (by omega)
    have h5 : pv_pA v (v.1 0) = pv_wP v := rfl
    omega
  · intro h
    show pv_pA v (v.1 0) ≤ 0
    rw [h]
    exact Int.le_refl _
theorem pv_pA_b99 {v : pv_T} (hv : pvA v) {n : Nat} (h : n ≤ v.1 0) : 0 ≤ pv_pA v n ∧ pv_pA v n ≤ 2865600 := pv_pA_b hv.1 h
end MEA
