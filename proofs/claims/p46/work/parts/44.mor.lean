/-! the reference's row of numbers, and what it reads in it -/
section MOR
variable {h : am_H} {v : pv_T}
/-- the arc of a turn, by its ends -/
theorem pv_ar_at {t : Int} (ht : 0 ≤ t) (hn : 0 < v.1 0) : ∃ a : Nat, pv_ar v t = a ∧ a < v.1 0 ∧ pv_tA v a ≤ t ∧ (t < pv_tA v (a + 1) ∨ a + 1 = v.1 0) ∧ ∀ i, i < a → pv_tA v (i + 1) ≤ t := by
  have hm := pv_fst_le (fun i => decide (t < pv_tA v (i + 1))) (v.1 0) 0
  have hat := pv_fst_at (fun i => decide (t < pv_tA v (i + 1))) (v.1 0) 0
  have hlt := pv_fst_lt (fun i => decide (t < pv_tA v (i + 1))) (v.1 0) 0
  unfold pv_ar
  generalize pv_fst (fun i => decide (t < pv_tA v (i + 1))) (v.1 0) 0 = m at hm hat hlt ⊢
  simp only [decide_eq_true_eq, decide_eq_false_iff_not] at hat hlt
  have key : ∀ i, i < m → pv_tA v (i + 1) ≤ t := fun i hi => by have := hlt i (by omega) hi; omega
  have k0 : ∀ i, i ≤ m → pv_tA v i ≤ t := fun i hi => by
    cases i with
    | zero => exact ht
    | succ i => exact key i (by omega)
  by_cases hmn : m < v.1 0
  · rw [if_pos hmn]
    exact ⟨m, rfl, hmn, k0 m (Nat.le_refl _), Or.inl (hat (by omega)), key⟩
  · rw [if_neg hmn]
    exact ⟨v.1 0 - 1, by omega, by omega, k0 _ (by omega), Or.inr (by omega), fun i hi => key i (by omega)⟩
theorem pv_tA_mono (hv : pv_ok v) {i j : Nat} (h : i ≤ j) (hj : j ≤ v.1 0) : pv_tA v i ≤ pv_tA v j := sI_mono h (fun q hq => by have := hv.2.1 q (by omega); omega)
/-- parts up to a turn, arc by arc, are those of the arcs ahead and of its own -/
theorem pv_pT_at (hv : pv_ok v) {t : Int} (ht : 0 ≤ t) (htw : t ≤ pv_wT v) {a : Nat} (ha : a < v.1 0) (h1 : pv_tA v a ≤ t) (h2 : t < pv_tA v (a + 1) ∨ a + 1 = v.1 0) : pv_pT v t (v.1 0) = pv_pA v a + v.2 1 a * (t - pv_tA v a) := by
  have e1 : ∀ n, n ≤ a → pv_pT v t n = pv_pA v n := by
    intro n
    induction n with
    | zero => intro _; rfl
    | succ n ih =>
      intro hn
      have hb := pv_tA_mono hv (i := n + 1) (j := a) hn (by omega)
      rw [pv_tA_s] at hb
      have hc := hv.2.1 n (by omega)
      show pv_pT v t n + v.2 1 n * pv_ps v t n = pv_pA v n + v.2 1 n * (10 * v.2 2 n)
      rw [ih (by omega)]
      unfold pv_ps
      rw [if_neg (by omega)]
      by_cases q : t - pv_tA v n ≤ 10 * v.2 2 n
      · rw [if_pos q, show t - pv_tA v n = 10 * v.2 2 n by omega]
      · rw [if_neg q]
  have e2 : pv_pT v t (a + 1) = pv_pA v a + v.2 1 a * (t - pv_tA v a) := by
    show pv_pT v t a + v.2 1 a * pv_ps v t a = _
    rw [e1 a (Nat.le_refl _)]
    have hle : t ≤ pv_tA v (a + 1) := by
      rcases h2 with h2 | h2
      · omega
      · rw [h2]; exact htw
    rw [pv_tA_s] at hle
    unfold pv_ps
    rw [if_neg (by omega), if_pos (by omega)]
  have e3 : ∀ n, a + 1 ≤ n → n ≤ v.1 0 → pv_pT v t n = pv_pT v t (a + 1) := by
    intro n
    induction n with
    | zero => intro q _; omega
    | succ n ih =>
      intro q1 q2
      by_cases e : n = a
      · subst e; rfl
      · rw [← ih (by omega) (by omega)]
        show pv_pT v t n + v.2 1 n * pv_ps v t n = pv_pT v t n
        have hb : t < pv_tA v n := by
          rcases h2 with h2 | h2
          · have := pv_tA_mono hv (i := a + 1) (j := n) (by omega) (by omega)
            omega
          · omega
        unfold pv_ps
        rw [if_pos hb, Int.mul_zero, Int.add_zero]
  rw [e3 _ (by omega) (Nat.le_refl _), e2]
theorem xI_tm {a : Int} (h1 : -100000 ≤ a) (h2 : a ≤ 100000) : iI a - iI a / iI 3600 * iI 3600 = iI (a.tmod 3600) := by
  rw [iI_d (by omega) (by omega) (by omega) (by omega) (by omega), iI_m, iI_s, Int.tmod_def, Int.mul_comm 3600]
end MOR
