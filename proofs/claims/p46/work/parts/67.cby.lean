/-! the reference's trials -/
section CBY
variable {h : am_H} {st : St}
/-! mostWidth -/
theorem k_isPlace {p : Int} (hp : -2147483648 ≤ p ∧ p < 2147483648) : f_X11_isPlace (iI p) = some (iI (bI (0 ≤ p ∧ p ≤ 25))) := by
  unfold f_X11_isPlace
  simp (disch := omega) only [xI_le, xI_lt, xI_eq, xI_0, xI_ib, if_pos, if_neg, if_true, if_false, xI_cl, Int.toNat_natCast, iI_m, iI_a, iI_s, iI_1, xI_n, Option.bind_some, Int.natCast_add, Int.natCast_one, xI_zb, if_bI0, if_bI1, xI_rn, xI_ti, k_isWithin (n := p) (a := 0) (b := 25) hp (by omega) (by omega)]
end CBY
