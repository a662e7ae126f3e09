/-! names, packed -/
theorem pkN_s {f : Nat → Int} {i : Nat} (h : 97 ≤ f i ∧ f i ≤ 122) : pkN f (i + 1) = pkN f i * 32 + (f i - 96).toNat := if_neg (by omega)
theorem pkN_z {f : Nat → Int} {i : Nat} (h : f i = 0) : pkN f (i + 1) = pkN f i := if_pos h
theorem pkN_tail {f : Nat → Int} {n : Nat} : ∀ {m : Nat}, n ≤ m → (∀ i, n ≤ i → i < m → f i = 0) → pkN f m = pkN f n
  | 0, h, _ => by have : n = 0 := by omega
                  subst this; rfl
  | m + 1, h, hz => by
    by_cases e : n = m + 1
    · subst e; rfl
    · rw [pkN_z (hz m (by omega) (by omega)), pkN_tail (m := m) (by omega) (fun i h1 h2 => hz i h1 (by omega))]
theorem pkN_b {f : Nat → Int} : ∀ {n : Nat}, (∀ i, i < n → 97 ≤ f i ∧ f i ≤ 122) → pkN f n < 32 ^ n ∧ (0 < n → 1 ≤ pkN f n)
  | 0, _ => ⟨Nat.zero_lt_one, fun z => absurd z (by omega)⟩
  | n + 1, h => by
    have h1 := (pkN_b (n := n) (fun i hi => h i (by omega))).1
    have h2 := h n (by omega)
    rw [pkN_s h2, Nat.pow_succ]
    omega
theorem pkN_div {f : Nat → Int} {n : Nat} (h : ∀ i, i < n → 97 ≤ f i ∧ f i ≤ 122) : ∀ {m : Nat}, m ≤ n → pkN f n / 32 ^ m = pkN f (n - m)
  | 0, _ => by simp
  | m + 1, hm => by
    rw [Nat.pow_succ, ← Nat.div_div_eq_div_mul, pkN_div h (m := m) (by omega)]
    have e : n - m = (n - (m + 1)) + 1 := by omega
    have h2 := h (n - (m + 1)) (by omega)
    rw [e, pkN_s h2]
    omega
theorem pw32 : ∀ {n : Nat}, n ≤ 8 → 32 ^ n ≤ 1099511627776 := by
  intro n hn
  have : 32 ^ n ≤ 32 ^ 8 := Nat.pow_le_pow_right (by decide) hn
  omega
section NAM
variable {f : Nat → Int} {n : Nat}
end NAM
