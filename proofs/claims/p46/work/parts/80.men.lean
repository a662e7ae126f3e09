/-! mend, polish: what they change -/
def dropS (v : pv_T) (s : Nat) : pv_T := (fun k => if k = 3 then v.1 3 - 1 else v.1 k, fun c i => if c = 12 ∨ c = 13 then (if i < s then v.2 c i else v.2 c (i + 1)) else v.2 c i)
theorem dropS_c {v : pv_T} {s c : Nat} (h : c ≠ 12) (h' : c ≠ 13) : (dropS v s).2 c = v.2 c := by
  funext i
  exact if_neg (fun z => z.elim h h')
theorem dropS_s {v : pv_T} {s c i : Nat} (h : c = 12 ∨ c = 13) : (dropS v s).2 c i = if i < s then v.2 c i else v.2 c (i + 1) := if_pos h
/-- all but letters' marks, mends, scratches is the same -/
def sameD (v w : pv_T) : Prop := w.1 0 = v.1 0 ∧ w.1 1 = v.1 1 ∧ w.1 2 = v.1 2 ∧ (∀ c, c ≠ 6 → c ≠ 7 → c ≠ 12 → c ≠ 13 → w.2 c = v.2 c)
theorem sameD.rf {v : pv_T} : sameD v v := ⟨rfl, rfl, rfl, fun _ _ _ _ _ => rfl⟩
theorem sameD.tr {u v w : pv_T} (a : sameD u v) (b : sameD v w) : sameD u w := ⟨b.1.trans a.1, b.2.1.trans a.2.1, b.2.2.1.trans a.2.2.1, fun c h1 h2 h3 h4 => (b.2.2.2 c h1 h2 h3 h4).trans (a.2.2.2 c h1 h2 h3 h4)⟩
theorem sameD.K {v w : pv_T} (s : sameD v w) : sameK v w := by
  have e14 : w.2 14 = v.2 14 := s.2.2.2 14 (by omega) (by omega) (by omega) (by omega)
  refine ⟨s.2.2.1, fun q hq => ?_⟩
  show (fun i => w.2 14 (8 * q + i)) = _
  rw [e14]
theorem dropS_D {v : pv_T} {s : Nat} : sameD v (dropS v s) := ⟨rfl, rfl, rfl, fun c _ _ h h' => dropS_c h h'⟩
theorem pu_D {v : pv_T} {c i : Nat} {x : Int} (h : c = 6 ∨ c = 7) : sameD v (pu v c i x) := ⟨rfl, rfl, rfl, fun d h6 h7 _ _ => by funext j; exact pu_o (by omega)⟩
theorem pvA_D {v w : pv_T} (s : sameD v w) (h67 : ∀ i, i < v.1 1 → 0 ≤ w.2 6 i ∧ w.2 6 i ≤ 1 ∧ 0 ≤ w.2 7 i ∧ w.2 7 i ≤ 3) (h3 : w.1 3 ≤ 44) (hs : ∀ i, i < w.1 3 → 0 ≤ w.2 12 i ∧ w.2 12 i < v.1 1 ∧ 100 ≤ w.2 13 i ∧ w.2 13 i ≤ 2000) (hv : pvA v) : pvA w := by
  obtain ⟨s0, s1, s2, sc⟩ := s
  have e : ∀ c, c ≠ 6 → c ≠ 7 → c ≠ 12 → c ≠ 13 → w.2 c = v.2 c := sc
  obtain ⟨⟨g1, g2, g3, g4, g5, g6, g7⟩, g8, g9⟩ := hv
  refine ⟨⟨⟨by rw [s0]; exact g1.1, by rw [s1]; exact g1.2.1, by rw [s2]; exact g1.2.2.1, h3⟩, ?_, ?_, ?_, ?_, ?_, ?_⟩, ?_, ?_⟩
  · rw [s0, e 1 (by omega) (by omega) (by omega) (by omega), e 2 (by omega) (by omega) (by omega) (by omega), e 3 (by omega) (by omega) (by omega) (by omega), e 4 (by omega) (by omega) (by omega) (by omega)]
    exact g2
  · rw [s1, e 5 (by omega) (by omega) (by omega) (by omega)]
    intro i hi
    have := g3 i hi
    exact ⟨this.1, this.2.1, h67 i hi⟩
  · rw [e 8 (by omega) (by omega) (by omega) (by omega)]; exact g4
  · rw [s2, e 9 (by omega) (by omega) (by omega) (by omega), e 10 (by omega) (by omega) (by omega) (by omega), e 11 (by omega) (by omega) (by omega) (by omega)]; exact g5
  · rw [s1]; exact hs
  · rw [e 0 (by omega) (by omega) (by omega) (by omega)]; exact g7
  · rw [s0, e 1 (by omega) (by omega) (by omega) (by omega)]; exact g8
  · rw [s2]
    intro q hq
    show nm_ok (fun i => w.2 14 (8 * q + i))
    rw [e 14 (by omega) (by omega) (by omega) (by omega)]; exact g9 q hq
section MEN
variable {h : am_H} {v : pv_T} {k : Nat}
theorem cl_pl.pu7 {j : Nat} {x : Int} (R : cl_pl h k v) : cl_pl (am_u h (.inr k) 9 j (iI x)) k (pu v 7 j x) := by
  have e : ∀ o, o ≠ 9 → (am_u h (.inr k) 9 j (iI x)).1 (.inr k) o = h.1 (.inr k) o := fun o ho => am_u_row (by simp; exact ho)
  unfold cl_pl cl_cu cl_na cl_ki cl_gr cl_sc at *
  rw [e 0 (by omega), e 1 (by omega), e 2 (by omega), e 3 (by omega), e 4 (by omega), e 5 (by omega), e 6 (by omega), e 7 (by omega), e 8 (by omega), e 10 (by omega), e 11 (by omega), e 12 (by omega), e 13 (by omega), e 14 (by omega), e 15 (by omega), e 16 (by omega), e 17 (by omega), e 18 (by omega), e 19 (by omega)]
  refine ⟨R.1, ⟨R.2.1.1, fun i hi => ⟨(R.2.1.2.1 i hi).1, (R.2.1.2.1 i hi).2.1, ?_⟩, R.2.1.2.2⟩, R.2.2⟩
  rw [au_s]
  show _ = iI (if i = j then x else v.2 7 i)
  by_cases c : i = j
  · rw [if_pos c, if_pos c]
  · rw [if_neg c, if_neg c]
    exact (R.2.1.2.1 i hi).2.2
/-- scratches alone are changed -/
theorem cl_pl.scr {h' : am_H} {w : pv_T} (e : ∀ o, o ≠ 17 → o ≠ 18 → o ≠ 19 → h'.1 (.inr k) o = h.1 (.inr k) o) (e1 : ∀ j, j ≠ 3 → w.1 j = v.1 j) (e2 : ∀ c, c ≠ 12 → c ≠ 13 → w.2 c = v.2 c) (S : cl_sc h' k w) (R : cl_pl h k v) : cl_pl h' k w := by
  refine ⟨?_, ?_, ?_, ?_, S, ?_⟩
  · have := R.1
    unfold cl_cu at *
    rw [e 1 (by omega) (by omega) (by omega), e 2 (by omega) (by omega) (by omega), e 3 (by omega) (by omega) (by omega), e 4 (by omega) (by omega) (by omega), e 5 (by omega) (by omega) (by omega), e1 0 (by omega), e2 1 (by omega) (by omega), e2 2 (by omega) (by omega), e2 3 (by omega) (by omega), e2 4 (by omega) (by omega)]
    exact this
  · have := R.2.1
    unfold cl_na at *
    rw [e 6 (by omega) (by omega) (by omega), e 7 (by omega) (by omega) (by omega), e 8 (by omega) (by omega) (by omega), e 9 (by omega) (by omega) (by omega), e 10 (by omega) (by omega) (by omega), e1 1 (by omega), e2 5 (by omega) (by omega), e2 6 (by omega) (by omega), e2 7 (by omega) (by omega), e2 8 (by omega) (by omega)]
    exact this
  · have := R.2.2.1
    unfold cl_ki at *
    rw [e 11 (by omega) (by omega) (by omega), e 12 (by omega) (by omega) (by omega), e 13 (by omega) (by omega) (by omega), e 14 (by omega) (by omega) (by omega), e 15 (by omega) (by omega) (by omega), e1 2 (by omega), e2 9 (by omega) (by omega), e2 10 (by omega) (by omega), e2 11 (by omega) (by omega), e2 14 (by omega) (by omega)]
    exact this
  · have := R.2.2.2.1
    unfold cl_gr at *
    rw [e 16 (by omega) (by omega) (by omega), e2 0 (by omega) (by omega)]
    exact this
  · rw [e 0 (by omega) (by omega) (by omega), e2 0 (by omega) (by omega)]
    exact R.2.2.2.2.2
theorem k_remove {s : Nat} (hs : s < v.1 3) (hn : v.1 3 ≤ 44) (R : cl_sc h k v) : ∃ h', f_X7_remove k (iI s) h = some h' ∧ cl_sc h' k (dropS v s) := by
  obtain ⟨r1, r2⟩ := R
  obtain ⟨t, e1, p1, p2, p3⟩ := ch_rel (fun i t => f_X7_remove_4 k (iI ((s : Int) + 1 + i)) t) (fun i t => t.1 (.inr k) 17 2 = iI (v.1 3) ∧ (∀ j, j < s + i → t.1 (.inr k) 18 j = iI ((dropS v s).2 12 j) ∧ t.1 (.inr k) 19 j = iI ((dropS v s).2 13 j)) ∧ (∀ j, s + i ≤ j → j < v.1 3 → t.1 (.inr k) 18 j = iI (v.2 12 j) ∧ t.1 (.inr k) 19 j = iI (v.2 13 j))) (n := v.1 3 - (s + 1)) (fun i t hi ht => by
    obtain ⟨p1, p2, p3⟩ := ht
    obtain ⟨q1, q2⟩ := p3 (s + 1 + i) (by omega) (by omega)
    refine ⟨am_u (am_u t (.inr k) 18 (s + i) (iI (v.2 12 (s + 1 + i)))) (.inr k) 19 (s + i) (iI (v.2 13 (s + 1 + i))), ?_, ?_, fun j hj => ?_, fun j hj hj2 => ?_⟩
    · show f_X7_remove_4 _ _ _ = f_X7_remove_4 _ _ _
      rw [e_X7_remove_4]
      simp (disch := omega) only [xI_le, xI_lt, xI_eq, xI_0, xI_ib, if_pos, if_neg, if_true, if_false, xI_cl, Int.toNat_natCast, iI_m, iI_a, iI_s, iI_1, xI_n, Option.bind_some, Int.natCast_add, Int.natCast_one, xI_zb, if_bI0, if_bI1, xI_rn, xI_ti, p1, am_lt, show ((s : Int) + 1 + i).toNat = s + 1 + i from by omega, show ((s : Int) + 1 + i - 1).toNat = s + i from by omega, q1, am_u_row (show ((.inr k : am_G), 19) ≠ (.inr k, 18) by simp), q2, show (s : Int) + 1 + ((i : Int) + 1) = (s : Int) + 1 + i + 1 from by omega]
    · rw [am_u_row (by simp), am_u_row (by simp)]; exact p1
    · rw [am_u_row (by simp), au_s, au_s, am_u_row (by simp)]
      by_cases c : j = s + i
      · rw [if_pos c, if_pos c, dropS_s (Or.inl rfl), dropS_s (Or.inr rfl), if_neg (by omega), if_neg (by omega), c, show s + 1 + i = s + i + 1 from by omega]
        exact ⟨rfl, rfl⟩
      · rw [if_neg c, if_neg c]
        exact p2 j (by omega)
    · rw [am_u_row (by simp), au_s, au_s, am_u_row (by simp), if_neg (by omega), if_neg (by omega)]
      exact p3 j (by omega) hj2) (s0 := h) ⟨r1, fun j hj => by
        rw [dropS_s (Or.inl rfl), dropS_s (Or.inr rfl), if_pos (by omega), if_pos (by omega)]
        exact r2 j (by omega), fun j _ hj => r2 j hj⟩
  refine ⟨am_u t (.inr k) 17 2 (iI ((v.1 3 : Int) - 1)), ?_, ?_, fun i hi => ?_⟩
  · unfold f_X7_remove
    simp (disch := omega) only [xI_le, xI_lt, xI_eq, xI_0, xI_ib, if_pos, if_neg, if_true, if_false, xI_cl, Int.toNat_natCast, iI_m, iI_a, iI_s, iI_1, xI_n, Option.bind_some, Int.natCast_add, Int.natCast_one, xI_zb, if_bI0, if_bI1, xI_rn, xI_ti]
    refine Eq.trans (Eq.trans (congrArg (fun z => f_X7_remove_4 k (iI z) h) (show (s : Int) + 1 = (s : Int) + 1 + ((0 : Nat) : Int) by omega)) e1) ?_
    show f_X7_remove_4 _ _ _ = _
    rw [e_X7_remove_4]
    simp (disch := omega) only [xI_le, xI_lt, xI_eq, xI_0, xI_ib, if_pos, if_neg, if_true, if_false, xI_cl, Int.toNat_natCast, iI_m, iI_a, iI_s, iI_1, xI_n, Option.bind_some, Int.natCast_add, Int.natCast_one, xI_zb, if_bI0, if_bI1, xI_rn, xI_ti, p1, am_lt, show ((v.1 3 - (s + 1) : Nat) : Int) = (v.1 3 : Int) - (s + 1) from by omega]
  · rw [au_s, if_pos rfl]
    show _ = iI (((v.1 3 - 1 : Nat)) : Int)
    rw [show ((v.1 3 - 1 : Nat) : Int) = (v.1 3 : Int) - 1 from by omega]
  · have hi' : i < v.1 3 - 1 := hi
    rw [am_u_row (by simp), am_u_row (by simp)]
    exact p2 i (by omega)
end MEN
