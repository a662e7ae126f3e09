/-! names, packed -/
theorem pkN_s {f : Nat → Int} {i : Nat} (h : 97 ≤ f i ∧ f i ≤ 122) : pkN f (i + 1) = pkN f i * 32 + (f i - 96).toNat := if_neg (by omega)
theorem pkN_z {f : Nat → Int} {i : Nat} (h : f i = 0) : pkN f (i + 1) = pkN f i := if_pos h
theorem pkN_tail {f : Nat → Int} {n : Nat} : ∀ {m : Nat}, n ≤ m → (∀ i, n ≤ i → i < m → f i = 0) → pkN f m = pkN f n
  | 0, h, _ => by have : n = 0 := by omega
                  subst this; rfl
  | m + 1, h, hz => by
    by_cases e : n = m + 1
    · subst e; rfl
    · rw [pkN_z (hz m (by omega) (by omega)), pkN_tail (m := m) (by omega) (fun i h1 h2 => hz i h1 (by omega))]
theorem pkN_b {f : Nat → Int} : ∀ {n : Nat}, (∀ i, i < n → 97 ≤ f i ∧ f i ≤ 122) → pkN f n < 32 ^ n ∧ (0 < n → 1 ≤ pkN f n)
  | 0, _ => ⟨Nat.zero_lt_one, fun z => absurd z (by omega)⟩
  | n + 1, h => by
    have h1 := (pkN_b (n := n) (fun i hi => h i (by omega))).1
    have h2 := h n (by omega)
    rw [pkN_s h2, Nat.pow_succ]
    omega
theorem pkN_div {f : Nat → Int} {n : Nat} (h : ∀ i, i < n → 97 ≤ f i ∧ f i ≤ 122) : ∀ {m : Nat}, m ≤ n → pkN f n / 32 ^ m = pkN f (n - m)
  | 0, _ => by simp
  | m + 1, hm => by
    rw [Nat.pow_succ, ← Nat.div_div_eq_div_mul, pkN_div h (m := m) (by omega)]
    have e : n - m = (n - (m + 1)) + 1 := by omega
    have h2 := h (n - (m + 1)) (by omega)
    rw [e, pkN_s h2]
    omega
theorem pw32 : ∀ {n : Nat}, n ≤ 8 → 32 ^ n ≤ 1099511627776 := by
  intro n hn
  have : 32 ^ n ≤ 32 ^ 8 := Nat.pow_le_pow_right (by decide) hn
  omega
section NAM
variable {f : Nat → Int} {n : Nat}
theorem m_lettersOf (hn : n ≤ 8) (hl : ∀ i, i < n → 97 ≤ f i ∧ f i ≤ 122) : f_X12_lettersOf (lN (pkN f n)) = some (iI n) := by
  have hp := pw32 hn
  have s := ch_to (fun i : Nat => f_X12_lettersOf_4 (iI i) (lN (pkN f (n - i)))) (Nat.zero_le n) (fun i _ hi => by
    show f_X12_lettersOf_4 _ _ = f_X12_lettersOf_4 _ _
    have hb := pkN_b (f := f) (n := n - i) (fun j hj => hl j (by omega))
    have hq := pw32 (n := n - i) (by omega)
    have hd := pkN_div (f := f) (n := n - i) (m := 1) (fun j hj => hl j (by omega)) (by omega)
    rw [Nat.pow_one, show n - i - 1 = n - (i + 1) by omega] at hd
    rw [e_X12_lettersOf_4, if_neg (by rw [lg_le, lN_tI (by omega)]; show ¬ ((pkN f (n - i) : Nat) : Int) ≤ 0; omega), show iI 5 = iI ((5 : Nat) : Int) from rfl, lN_sr (by omega) (by omega), show 2 ^ 5 = 32 from rfl, hd]
    simp (disch := omega) only [xI_le, xI_lt, xI_eq, xI_0, xI_ib, if_pos, if_neg, if_true, if_false, xI_cl, Int.toNat_natCast, iI_m, iI_a, iI_s, iI_1, xI_n, Option.bind_some, Int.natCast_add, Int.natCast_one, xI_zb, if_bI0, if_bI1, xI_rn, xI_ti])
  show f_X12_lettersOf_4 (iI (0 : Nat)) (lN (pkN f (n - 0))) = _
  refine Eq.trans s ?_
  show f_X12_lettersOf_4 (iI n) (lN (pkN f (n - n))) = _
  rw [Nat.sub_self, e_X12_lettersOf_4, if_pos (by rw [lg_le]; exact Int.le_refl _)]
theorem m_letterOf (hn : n ≤ 8) (hl : ∀ i, i < n → 97 ≤ f i ∧ f i ≤ 122) {i : Int} (hi : -2147483648 ≤ i ∧ i < 2147483648) : f_X12_letterOf (lN (pkN f n)) (iI i) = some (iI (if 0 ≤ i ∧ i ≤ (n : Int) - 1 then f i.toNat else 0)) := by
  have hp := pw32 hn
  have hb := pkN_b (f := f) (n := n) hl
  unfold f_X12_letterOf
  rw [m_lettersOf hn hl, Option.bind_some, iI_s, m_isInz (n := i) (b := (n : Int) - 1) (xL_i (by omega) (by omega)) hi, Option.bind_some]
  by_cases c : 0 ≤ i ∧ i ≤ (n : Int) - 1
  · rw [show bI (0 ≤ i ∧ i ≤ (n : Int) - 1) = 1 from if_pos c, if_neg (by decide), if_pos c, iI_s, iI_m]
    have e : (5 : Int) * ((n : Int) - 1 - i) = ((5 * (n - 1 - i.toNat) : Nat) : Int) := by omega
    have h2 : pkN f n / 2 ^ (5 * (n - 1 - i.toNat)) = pkN f (i.toNat + 1) := by
      rw [Nat.pow_mul, show 2 ^ 5 = 32 from rfl, pkN_div hl (by omega)]
      congr 1
      omega
    have h3 := hl i.toNat (by omega)
    have h4 := (pkN_b (f := f) (n := i.toNat) (fun j hj => hl j (by omega))).1
    have h5 := pw32 (n := i.toNat) (by omega)
    rw [e, lN_sr (by omega) (by omega), h2, lN_d31 (by rw [pkN_s h3]; omega), pkN_s h3, iI_a]
    congr 2
    omega
  · rw [show bI (0 ≤ i ∧ i ≤ (n : Int) - 1) = 0 from if_neg c, if_pos (show iI 0 = (0 : Int32) from rfl), if_neg c]
end NAM
