section POL
variable {h : am_H} {st : St} {v : pv_T} {k : Nat}
theorem k_polishLetter (hv : pv_ok v) {l : Nat} (hl : l < v.1 1) (R : cl_pl h k v) : ∃ h', f_X5_polishLetter k (iI l) h = some (iI ((v.1 3 : Int) - cN (oth v l) (v.1 3)), h') ∧ cl_pl h' k (poV v l) := by
  have h8 := hv.1
  have g3 := hv.2.2.1 l hl
  have R1 := R.pu6 (j := l) (x := 0)
  have R2 := R1.pu7 (j := l) (x := v.2 7 l + 1)
  have ho : oth (pu (pu v 6 l 0) 7 l (v.2 7 l + 1)) l = oth v l := by
    show (fun i' => decide ((pu (pu v 6 l 0) 7 l (v.2 7 l + 1)).2 12 i' ≠ (l : Int))) = _
    rw [pu_row (by omega), pu_row (by omega)]
  have q9 := (R.2.1.2.1 l hl).2.2
  have hs : ∀ i, i < v.1 3 → 0 ≤ v.2 12 i ∧ v.2 12 i < v.1 1 := fun i hi => ⟨(hv.2.2.2.2.2.1 i hi).1, (hv.2.2.2.2.2.1 i hi).2.1⟩
  obtain ⟨h', e, S⟩ := k_removeAllOf' (v := pu (pu v 6 l 0) 7 l (v.2 7 l + 1)) (l := l) h8.2.1 h8.2.2.2 (fun i hi => by rw [pu_row (by omega), pu_row (by omega)]; exact hs i hi) hl R2.2.2.2.2.1
  rw [ho] at e
  have w := wr_X7_removeAllOf e
  refine ⟨h', ?_, R2.scr (fun o h1 h2 h3 => w.1 _ _ (by simp; omega)) (fun j hj => if_neg hj) (fun c h1 h2 => by funext i; exact if_neg (fun z => z.elim h1 h2)) S⟩
  unfold f_X5_polishLetter
  simp (disch := omega) only [xI_le, xI_lt, xI_eq, xI_0, xI_ib, if_pos, if_neg, if_true, if_false, xI_cl, Int.toNat_natCast, iI_m, iI_a, iI_s, iI_1, xI_n, Option.bind_some, Int.natCast_add, Int.natCast_one, xI_zb, if_bI0, if_bI1, xI_rn, xI_ti, vz0, am_lt, am_u_row (show ((.inr k : am_G), 9) ≠ (.inr k, 8) by simp), q9]
  rw [e]
  rfl
end POL
