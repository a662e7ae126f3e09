/-! a script's run: what it does, and that it ends -/
def rnS (S : SC) : Nat → pv_T → Nat → Nat → (Nat → Nat) → Nat × pv_T
  | 0, v, dn, _, _ => (dn, v)
  | m + 1, v, dn, k, lp => if S.1 ≤ k ∨ 40 ≤ dn then (dn, v) else if S.2.1 k = 6 then rnS S m v dn (k + 1) (fu lp (dep S.2.1 k) (S.2.2 k).toNat) else if S.2.1 k = 7 then rnS S m v dn (if 1 < lp (dep S.2.1 k - 1) then stk' S.2.1 k (dep S.2.1 k - 1) + 1 else k + 1) (fu lp (dep S.2.1 k - 1) (lp (dep S.2.1 k - 1) - 1)) else if canB v (S.2.1 k) (S.2.2 k) = true then rnS S m (doV v (S.2.1 k) (S.2.2 k)) (dn + 1) (k + 1) lp else (dn, v)
/-- what is left at each depth, with r steps left -/
def cz2 (S : SC) : Nat → Nat
  | 0 => 0
  | r + 1 => if dep S.2.1 (S.1 - (r + 1)) = 2 then (if S.2.1 (S.1 - (r + 1)) = 7 then 1 else 1 + cz2 S r) else 0
def cz1 (S : SC) : Nat → Nat
  | 0 => 0
  | r + 1 => if dep S.2.1 (S.1 - (r + 1)) = 1 then (if S.2.1 (S.1 - (r + 1)) = 7 then 1 else if S.2.1 (S.1 - (r + 1)) = 6 then 1 + 20 * cz2 S r + cz1 S r else 1 + cz1 S r) else if dep S.2.1 (S.1 - (r + 1)) = 2 then cz1 S r else 0
def cz0 (S : SC) : Nat → Nat
  | 0 => 0
  | r + 1 => if dep S.2.1 (S.1 - (r + 1)) = 0 then (if S.2.1 (S.1 - (r + 1)) = 6 then 1 + 20 * cz1 S r + cz0 S r else 1 + cz0 S r) else cz0 S r
def co2 (S : SC) (k : Nat) : Nat := cz2 S (S.1 - k)
def co1 (S : SC) (k : Nat) : Nat := cz1 S (S.1 - k)
def co0 (S : SC) (k : Nat) : Nat := cz0 S (S.1 - k)
section RUN
variable {S : SC}
theorem co2_s {k : Nat} (h : k < S.1) : co2 S k = if dep S.2.1 k = 2 then (if S.2.1 k = 7 then 1 else 1 + co2 S (k + 1)) else 0 := by
  unfold co2
  rw [show S.1 - k = (S.1 - (k + 1)) + 1 by omega]
  show (if dep S.2.1 (S.1 - (S.1 - (k + 1) + 1)) = 2 then (if S.2.1 (S.1 - (S.1 - (k + 1) + 1)) = 7 then 1 else 1 + cz2 S (S.1 - (k + 1))) else 0) = _
  rw [show S.1 - (S.1 - (k + 1) + 1) = k by omega]
theorem co1_s {k : Nat} (h : k < S.1) : co1 S k = if dep S.2.1 k = 1 then (if S.2.1 k = 7 then 1 else if S.2.1 k = 6 then 1 + 20 * co2 S (k + 1) + co1 S (k + 1) else 1 + co1 S (k + 1)) else if dep S.2.1 k = 2 then co1 S (k + 1) else 0 := by
  unfold co1 co2
  rw [show S.1 - k = (S.1 - (k + 1)) + 1 by omega]
  show (if dep S.2.1 (S.1 - (S.1 - (k + 1) + 1)) = 1 then (if S.2.1 (S.1 - (S.1 - (k + 1) + 1)) = 7 then 1 else if S.2.1 (S.1 - (S.1 - (k + 1) + 1)) = 6 then 1 + 20 * cz2 S (S.1 - (k + 1)) + cz1 S (S.1 - (k + 1)) else 1 + cz1 S (S.1 - (k + 1))) else if dep S.2.1 (S.1 - (S.1 - (k + 1) + 1)) = 2 then cz1 S (S.1 - (k + 1)) else 0) = _
  rw [show S.1 - (S.1 - (k + 1) + 1) = k by omega]
theorem co0_s {k : Nat} (h : k < S.1) : co0 S k = if dep S.2.1 k = 0 then (if S.2.1 k = 6 then 1 + 20 * co1 S (k + 1) + co0 S (k + 1) else 1 + co0 S (k + 1)) else co0 S (k + 1) := by
  unfold co0 co1
  rw [show S.1 - k = (S.1 - (k + 1)) + 1 by omega]
  show (if dep S.2.1 (S.1 - (S.1 - (k + 1) + 1)) = 0 then (if S.2.1 (S.1 - (S.1 - (k + 1) + 1)) = 6 then 1 + 20 * cz1 S (S.1 - (k + 1)) + cz0 S (S.1 - (k + 1)) else 1 + cz0 S (S.1 - (k + 1))) else cz0 S (S.1 - (k + 1))) = _
  rw [show S.1 - (S.1 - (k + 1) + 1) = k by omega]
theorem dep_le2 (hS : ∀ k, k < S.1 → sc_at S k) : ∀ k, k ≤ S.1 → dep S.2.1 k ≤ 2
  | 0, _ => Nat.zero_le _
  | k + 1, h => by
    have ih := dep_le2 hS k (by omega)
    by_cases c : S.2.1 k = 6
    · have := ((hS k (by omega)).2.1 c).1
      rw [dep_6 c]; omega
    · by_cases d : S.2.1 k = 7
      · rw [dep_7 d]; omega
      · rw [dep_o c d]; exact ih
theorem dep_dn {kd : Nat → Int} {k : Nat} (h : kd k ≠ 6) : dep kd (k + 1) ≤ dep kd k := by
  by_cases d : kd k = 7
  · rw [dep_7 d]; omega
  · rw [dep_o h d]; omega
theorem co0_k : ∀ k, k ≤ S.1 → 1 ≤ dep S.2.1 k → co0 S (stk' S.2.1 k 0 + 1) = co0 S k
  | 0, _, h => absurd h (by show ¬ 1 ≤ 0; omega)
  | k + 1, hk, h => by
    by_cases c : S.2.1 k = 6
    · by_cases d : dep S.2.1 k = 0
      · rw [stk_6 c, if_pos d.symm]
      · rw [stk_6 c, if_neg (by omega), co0_k k (by omega) (by omega), co0_s (by omega), if_neg d]
    · have := dep_dn c
      rw [stk_o c, co0_k k (by omega) (by omega), co0_s (by omega), if_neg (by omega)]
theorem co1_k (hS : ∀ k, k < S.1 → sc_at S k) : ∀ k, k ≤ S.1 → dep S.2.1 k = 2 → co1 S (stk' S.2.1 k 1 + 1) = co1 S k
  | 0, _, h => absurd h (by show ¬ 0 = 2; omega)
  | k + 1, hk, h => by
    have h2 := dep_le2 hS k (by omega)
    by_cases c : S.2.1 k = 6
    · rw [dep_6 c] at h
      rw [stk_6 c, if_pos (by omega)]
    · have := dep_dn c
      rw [stk_o c, co1_k hS k (by omega) (by omega), co1_s (by omega), if_neg (by omega), if_pos (by omega)]
def mes (S : SC) (k : Nat) (lp : Nat → Nat) : Nat := (if dep S.2.1 k = 2 then co2 S k + (lp 1 - 1) * co2 S (stk' S.2.1 k 1 + 1) else 0) + (if 1 ≤ dep S.2.1 k then co1 S k + (lp 0 - 1) * co1 S (stk' S.2.1 k 0 + 1) else 0) + co0 S k
theorem mes6 {k n : Nat} {lp : Nat → Nat} (hk : k < S.1) (c : S.2.1 k = 6) (hd : dep S.2.1 k < 2) (hn : 1 ≤ n ∧ n ≤ 20) : mes S (k + 1) (fu lp (dep S.2.1 k) n) + 1 ≤ mes S k lp := by
  unfold mes
  rw [dep_6 c]
  by_cases d : dep S.2.1 k = 0
  · have e0 := co0_s hk
    rw [if_pos d, if_pos c] at e0
    have es : stk' S.2.1 (k + 1) 0 = k := by rw [stk_6 c, if_pos d.symm]
    have h1 : (n - 1) * co1 S (k + 1) ≤ 19 * co1 S (k + 1) := Nat.mul_le_mul_right _ (by omega)
    rw [d, es, show fu lp 0 n 0 = n from fu_s, if_neg (by omega), if_pos (by omega), if_neg (by omega), if_neg (by omega), e0]
    omega
  · have d1 : dep S.2.1 k = 1 := by omega
    have e0 := co0_s hk
    rw [if_neg d] at e0
    have e1 := co1_s hk
    rw [if_pos d1, if_neg (by omega), if_pos c] at e1
    have es : stk' S.2.1 (k + 1) 1 = k := by rw [stk_6 c, if_pos d1.symm]
    have es0 : stk' S.2.1 (k + 1) 0 = stk' S.2.1 k 0 := by rw [stk_6 c, if_neg (by omega)]
    have h1 : (n - 1) * co2 S (k + 1) ≤ 19 * co2 S (k + 1) := Nat.mul_le_mul_right _ (by omega)
    rw [d1, es, es0, show fu lp 1 n 1 = n from fu_s, show fu lp 1 n 0 = lp 0 from fu_o (by omega), if_pos (by omega), if_pos (by omega), if_neg (by omega), if_pos (by omega), e0, e1]
    omega
theorem mesC {k : Nat} {lp : Nat → Nat} (hS : ∀ k, k < S.1 → sc_at S k) (hk : k < S.1) (c6 : S.2.1 k ≠ 6) (c7 : S.2.1 k ≠ 7) : mes S (k + 1) lp + 1 ≤ mes S k lp := by
  have h2 := dep_le2 hS k (by omega)
  have e0 := co0_s hk
  have e1 := co1_s hk
  have e2 := co2_s hk
  unfold mes
  rw [dep_o c6 c7, stk_o c6, stk_o c6]
  rw [if_neg c7] at e2
  rw [if_neg c7, if_neg c6] at e1
  rw [if_neg c6] at e0
  by_cases d : dep S.2.1 k = 0
  · rw [if_pos d] at e0
    rw [if_neg (by omega), if_neg (by omega), if_neg (by omega), e0]
    omega
  · rw [if_neg d] at e0
    by_cases d1 : dep S.2.1 k = 1
    · rw [if_pos d1] at e1
      rw [if_neg (by omega), if_pos (by omega), if_neg (by omega), if_pos (by omega), e0, e1]
      omega
    · have d2 : dep S.2.1 k = 2 := by omega
      rw [if_neg d1, if_pos d2] at e1
      rw [if_pos d2] at e2
      rw [if_pos d2, if_pos (by omega), if_pos d2, if_pos (by omega), e0, e1, e2]
      omega
theorem mul_t {t C : Nat} (h : 2 ≤ t) : (t - 1) * C = (t - 1 - 1) * C + C := by
  obtain ⟨u, rfl⟩ : ∃ u, t = u + 2 := ⟨t - 2, by omega⟩
  show (u + 1) * C = u * C + C
  rw [Nat.add_mul, Nat.one_mul]
theorem mes7 {k : Nat} {lp : Nat → Nat} (hS : ∀ k, k < S.1 → sc_at S k) (hk : k < S.1) (c : S.2.1 k = 7) (hd : 0 < dep S.2.1 k) : mes S (if 1 < lp (dep S.2.1 k - 1) then stk' S.2.1 k (dep S.2.1 k - 1) + 1 else k + 1) (fu lp (dep S.2.1 k - 1) (lp (dep S.2.1 k - 1) - 1)) + 1 ≤ mes S k lp := by
  have h2 := dep_le2 hS k (by omega)
  have e0 := co0_s hk
  have e1 := co1_s hk
  have e2 := co2_s hk
  rw [if_pos c] at e2
  rw [if_pos c] at e1
  rw [if_neg (by omega)] at e0
  by_cases d1 : dep S.2.1 k = 1
  · rw [d1, Nat.sub_self]
    rw [if_pos d1] at e1
    by_cases g : 1 < lp 0
    · rw [if_pos g]
      obtain ⟨a1, a2, a3, a4⟩ := stk_p (kd := S.2.1) k (j := 0) (by omega)
      have b0 := co0_k (S := S) k (by omega) (by omega)
      have hm := mul_t (t := lp 0) (C := co1 S (stk' S.2.1 k 0 + 1)) g
      unfold mes
      rw [a3, a4 0 (Nat.le_refl 0), show fu lp 0 (lp 0 - 1) 0 = lp 0 - 1 from fu_s, if_neg (by omega), if_pos (by omega), if_neg (by omega), if_pos (by omega), e1, b0]
      omega
    · rw [if_neg g]
      unfold mes
      rw [dep_7 c, d1, if_neg (by omega), if_neg (by omega), if_neg (by omega), if_pos (by omega), e1, e0]
      omega
  · have d2 : dep S.2.1 k = 2 := by omega
    rw [d2, show 2 - 1 = 1 from rfl]
    rw [if_neg d1, if_pos d2] at e1
    rw [if_pos d2] at e2
    by_cases g : 1 < lp 1
    · rw [if_pos g]
      obtain ⟨a1, a2, a3, a4⟩ := stk_p (kd := S.2.1) k (j := 1) (by omega)
      have b0 := co0_k (S := S) k (by omega) (by omega)
      have b1 := co1_k hS k (by omega) d2
      have b2 := co0_k (S := S) (stk' S.2.1 k 1 + 1) (by omega) (by omega)
      rw [a4 0 (by omega), b0] at b2
      have hm := mul_t (t := lp 1) (C := co2 S (stk' S.2.1 k 1 + 1)) g
      unfold mes
      rw [a3, a4 0 (by omega), a4 1 (Nat.le_refl 1), show fu lp 1 (lp 1 - 1) 1 = lp 1 - 1 from fu_s, show fu lp 1 (lp 1 - 1) 0 = lp 0 from fu_o (by omega), if_pos (by omega), if_pos (by omega), if_pos d2, if_pos (by omega), e2, ← b2, b1]
      omega
    · rw [if_neg g]
      unfold mes
      rw [dep_7 c, d2, stk_o (kd := S.2.1) (k := k) (j := 0) (by omega), show fu lp 1 (lp 1 - 1) 0 = lp 0 from fu_o (by omega), if_neg (by omega), if_pos (by omega), if_pos (by omega), if_pos (by omega), e2, e1, e0]
      omega
/-- not many steps -/
theorem co_b (hS : ∀ k, k < S.1 → sc_at S k) : ∀ (r k : Nat), k + r = S.1 → co0 S k + 20 * ((if dep S.2.1 k = 2 then 20 * co2 S k else 0) + (if 1 ≤ dep S.2.1 k then co1 S k else 0)) ≤ 400 * r
  | 0, k, h => by
    have z : S.1 - k = 0 := by omega
    have a0 : co0 S k = 0 := by unfold co0; rw [z]; rfl
    have a1 : co1 S k = 0 := by unfold co1; rw [z]; rfl
    have a2 : co2 S k = 0 := by unfold co2; rw [z]; rfl
    rw [a0, a1, a2]
    split <;> split <;> omega
  | r + 1, k, h => by
    have ih := co_b hS r (k + 1) (by omega)
    have h2 := dep_le2 hS k (by omega)
    have hk : k < S.1 := by omega
    have e0 := co0_s hk
    have e1 := co1_s hk
    have e2 := co2_s hk
    by_cases c6 : S.2.1 k = 6
    · have hd := ((hS k hk).2.1 c6).1
      rw [dep_6 c6] at ih
      by_cases d : dep S.2.1 k = 0
      · rw [if_pos d, if_pos c6] at e0
        rw [d, if_neg (by omega), if_pos (by omega)] at ih
        rw [if_neg (by omega), if_neg (by omega), e0]
        omega
      · have d1 : dep S.2.1 k = 1 := by omega
        rw [if_neg d] at e0
        rw [if_pos d1, if_neg (by omega), if_pos c6] at e1
        rw [d1, if_pos (by omega), if_pos (by omega)] at ih
        rw [if_neg (by omega), if_pos (by omega), e0, e1]
        omega
    · by_cases c7 : S.2.1 k = 7
      · have hd := ((hS k hk).2.2.1 c7).1
        rw [dep_7 c7] at ih
        rw [if_neg (by omega)] at e0
        rw [if_pos c7] at e1 e2
        by_cases d1 : dep S.2.1 k = 1
        · rw [if_pos d1] at e1
          rw [d1, if_neg (by omega), if_neg (by omega)] at ih
          rw [if_neg (by omega), if_pos (by omega), e0, e1]
          omega
        · have d2 : dep S.2.1 k = 2 := by omega
          rw [if_neg d1, if_pos d2] at e1
          rw [if_pos d2] at e2
          rw [d2, if_neg (by omega), if_pos (by omega)] at ih
          rw [if_pos d2, if_pos (by omega), e0, e1, e2]
          omega
      · rw [dep_o c6 c7] at ih
        rw [if_neg c7] at e2
        rw [if_neg c7, if_neg c6] at e1
        rw [if_neg c6] at e0
        by_cases d : dep S.2.1 k = 0
        · rw [if_pos d] at e0
          rw [if_neg (by omega), if_neg (by omega)] at ih
          rw [if_neg (by omega), if_neg (by omega), e0]
          omega
        · rw [if_neg d] at e0
          by_cases d1 : dep S.2.1 k = 1
          · rw [if_pos d1] at e1
            rw [if_neg (by omega), if_pos (by omega)] at ih
            rw [if_neg (by omega), if_pos (by omega), e0, e1]
            omega
          · have d2 : dep S.2.1 k = 2 := by omega
            rw [if_neg d1, if_pos d2] at e1
            rw [if_pos d2] at e2
            rw [if_pos d2, if_pos (by omega)] at ih
            rw [if_pos d2, if_pos (by omega), e0, e1, e2]
            omega
theorem mes_0 (hS : ∀ k, k < S.1 → sc_at S k) (h60 : S.1 ≤ 60) {lp : Nat → Nat} : mes S 0 lp ≤ 24000 := by
  have := co_b hS S.1 0 (by omega)
  unfold mes
  rw [if_neg (show ¬ dep S.2.1 0 = 2 by show ¬ 0 = 2; omega), if_neg (show ¬ 1 ≤ dep S.2.1 0 by show ¬ 1 ≤ 0; omega)] at this ⊢
  omega
theorem mes_p {k : Nat} {lp : Nat → Nat} (hS : ∀ k, k < S.1 → sc_at S k) (hk : k < S.1) : 1 ≤ mes S k lp := by
  by_cases c6 : S.2.1 k = 6
  · have := mes6 (lp := lp) (n := 1) hk c6 ((hS k hk).2.1 c6).1 (by omega)
    omega
  · by_cases c7 : S.2.1 k = 7
    · have := mes7 (lp := lp) hS hk c7 ((hS k hk).2.2.1 c7).1
      omega
    · have := mesC (lp := lp) hS hk c6 c7
      omega
/-- laps that are left -/
def lp_ok (S : SC) (k : Nat) (lp : Nat → Nat) : Prop := ∀ j, j < dep S.2.1 k → 1 ≤ lp j ∧ lp j ≤ 20
theorem lp_6 {k n : Nat} {lp : Nat → Nat} (c : S.2.1 k = 6) (hn : 1 ≤ n ∧ n ≤ 20) (L : lp_ok S k lp) : lp_ok S (k + 1) (fu lp (dep S.2.1 k) n) := fun j hj => by
  rw [dep_6 c] at hj
  by_cases d : j = dep S.2.1 k
  · rw [d, fu_s]; exact hn
  · rw [fu_o d]; exact L j (by omega)
theorem lp_C {k : Nat} {lp : Nat → Nat} (c6 : S.2.1 k ≠ 6) (c7 : S.2.1 k ≠ 7) (L : lp_ok S k lp) : lp_ok S (k + 1) lp := fun j hj => by
  rw [dep_o c6 c7] at hj
  exact L j hj
theorem lp_7 {k : Nat} {lp : Nat → Nat} (c : S.2.1 k = 7) (hd : 0 < dep S.2.1 k) (L : lp_ok S k lp) : lp_ok S (if 1 < lp (dep S.2.1 k - 1) then stk' S.2.1 k (dep S.2.1 k - 1) + 1 else k + 1) (fu lp (dep S.2.1 k - 1) (lp (dep S.2.1 k - 1) - 1)) := by
  have l1 := L (dep S.2.1 k - 1) (by omega)
  by_cases g : 1 < lp (dep S.2.1 k - 1)
  · rw [if_pos g]
    obtain ⟨a1, a2, a3, a4⟩ := stk_p (kd := S.2.1) k (j := dep S.2.1 k - 1) (by omega)
    intro j hj
    rw [a3] at hj
    by_cases d : j = dep S.2.1 k - 1
    · rw [d, fu_s]; omega
    · rw [fu_o d]; exact L j (by omega)
  · rw [if_neg g]
    intro j hj
    rw [dep_7 c] at hj
    rw [fu_o (by omega)]
    exact L j (by omega)
end RUN
