/-! numbers in functions: rows for simp, with omega for what they ask -/
theorem xI_le {a b : Int} (h1 : -2147483648 ≤ a) (h2 : a < 2147483648) (h3 : -2147483648 ≤ b) (h4 : b < 2147483648) : (iI a ≤ iI b) = (a ≤ b) := propext (iI_le h1 h2 h3 h4)
theorem xI_lt {a b : Int} (h1 : -2147483648 ≤ a) (h2 : a < 2147483648) (h3 : -2147483648 ≤ b) (h4 : b < 2147483648) : (iI a < iI b) = (a < b) := propext (iI_lt h1 h2 h3 h4)
theorem xI_eq {a b : Int} (h1 : -2147483648 ≤ a) (h2 : a < 2147483648) (h3 : -2147483648 ≤ b) (h4 : b < 2147483648) : (iI a = iI b) = (a = b) := propext (iI_eq h1 h2 h3 h4)
theorem xI_0 : (0 : Int32) = iI 0 := rfl
theorem xI_1 : (1 : Int32) = iI 1 := rfl
theorem xI_ib {z : Int} {n : Nat} (h1 : 0 ≤ z) (h2 : z < n) (h3 : n < 2147483648) : ib (iI z) n = True := by
  have e := iI_toInt (a := z) (by omega) (by omega)
  exact propext ⟨fun _ => trivial, fun _ => by unfold ib; rw [e]; exact ⟨h1, h2⟩⟩
theorem xI_cl {z : Int} (h1 : 0 ≤ z) (h2 : z < 2147483648) : (iI z).toNatClampNeg = z.toNat := iI_clz h1 h2
theorem xI_n (a : Int) : - iI a = iI (-a) := iI_n a
theorem xI_dn {a b : Int} (h1 : 0 ≤ a) (h2 : a < 2147483648) (h3 : 0 < b) (h4 : b < 2147483648) : iI a / iI b = iI (a / b) := iI_dn h1 h2 h3 h4
theorem ch_to {α : Type} (F : Nat → α) {m n : Nat} (hmn : m ≤ n) (hs : ∀ i, m ≤ i → i < n → F i = F (i + 1)) : F m = F n := by
  induction n with
  | zero => have : m = 0 := by omega
            subst this; rfl
  | succ n ih =>
    by_cases e : m = n + 1
    · subst e; rfl
    · rw [ih (by omega) (fun i h1 h2 => hs i h1 (by omega)), hs n (by omega) (by omega)]
/-- a relation kept along a loop -/
theorem ch_rel {σ α : Type} (F : Nat → σ → α) (P : Nat → σ → Prop) {n : Nat} (hs : ∀ i s, i < n → P i s → ∃ s', F i s = F (i + 1) s' ∧ P (i + 1) s') {s0 : σ} (h0 : P 0 s0) : ∃ s', F 0 s0 = F n s' ∧ P n s' := by
  induction n with
  | zero => exact ⟨s0, rfl, h0⟩
  | succ n ih =>
    obtain ⟨s1, e1, p1⟩ := ih (fun i s hi hp => hs i s (by omega) hp)
    obtain ⟨s2, e2, p2⟩ := hs n s1 (by omega) p1
    exact ⟨s2, e1.trans e2, p2⟩
abbrev bI (c : Prop) [Decidable c] : Int := if c then 1 else 0
