/-! numbers: an int as the image of a whole number -/
def iI (z : Int) : Int32 := Int32.ofInt z
theorem iI_a (a b : Int) : iI a + iI b = iI (a + b) := (Int32.ofInt_add a b).symm
theorem iI_s (a b : Int) : iI a - iI b = iI (a - b) := (Int32.ofInt_sub a b).symm
theorem iI_m (a b : Int) : iI a * iI b = iI (a * b) := (Int32.ofInt_mul a b).symm
theorem iI_n (a : Int) : - iI a = iI (-a) := (Int32.ofInt_neg a).symm
theorem iI_1 (a : Int) : iI a + 1 = iI (a + 1) := iI_a a 1
theorem iI_of (x : Int32) : x = iI x.toInt := (Int32.ofInt_toInt x).symm
theorem iI_ex (x : Int32) : ∃ z : Int, x = iI z ∧ -2147483648 ≤ z ∧ z < 2147483648 := ⟨x.toInt, iI_of x, Int32.le_toInt x, Int32.toInt_lt x⟩
theorem iI_toInt {a : Int} (h1 : -2147483648 ≤ a) (h2 : a < 2147483648) : (iI a).toInt = a := Int32.toInt_ofInt_of_le h1 h2
theorem iI_nI (n : Nat) : nI n = iI n := Int32.ofInt_eq_ofNat.symm
theorem iI_lt {a b : Int} (h1 : -2147483648 ≤ a) (h2 : a < 2147483648) (h3 : -2147483648 ≤ b) (h4 : b < 2147483648) : iI a < iI b ↔ a < b := by
  rw [Int32.lt_iff_toInt_lt, iI_toInt h1 h2, iI_toInt h3 h4]
theorem iI_le {a b : Int} (h1 : -2147483648 ≤ a) (h2 : a < 2147483648) (h3 : -2147483648 ≤ b) (h4 : b < 2147483648) : iI a ≤ iI b ↔ a ≤ b := by
  rw [Int32.le_iff_toInt_le, iI_toInt h1 h2, iI_toInt h3 h4]
theorem iI_eq {a b : Int} (h1 : -2147483648 ≤ a) (h2 : a < 2147483648) (h3 : -2147483648 ≤ b) (h4 : b < 2147483648) : iI a = iI b ↔ a = b := by
  rw [← Int32.toInt_inj, iI_toInt h1 h2, iI_toInt h3 h4]
theorem iI_cl {n : Nat} (h : n < 2147483648) : (iI (n : Int)).toNatClampNeg = n := by
  show (Int32.ofInt n).toNatClampNeg = n
  rw [Int32.toNatClampNeg_ofInt_of_le (by omega) (by omega)]
  omega
theorem iI_clz {z : Int} (h1 : 0 ≤ z) (h2 : z < 2147483648) : (iI z).toNatClampNeg = z.toNat := Int32.toNatClampNeg_ofInt_of_le (by omega) h2
theorem iI_in {z : Int} {n : Nat} (h1 : 0 ≤ z) (h2 : z < n) (h3 : n < 2147483648) : vp_in (iI z) n := by
  refine vp_in_iff.mpr ?_
  rw [iI_toInt (by omega) (by omega)]
  exact ⟨h1, h2⟩
theorem iI_d {a b : Int} (h1 : -2147483648 ≤ a) (h2 : a < 2147483648) (h3 : -2147483648 ≤ b) (h4 : b < 2147483648) (h5 : b ≠ -1) : iI a / iI b = iI (a.tdiv b) := by
  rw [← Int32.toInt_inj, Int32.toInt_div_of_ne_right _ _ (fun e => h5 ?_), iI_toInt h1 h2, iI_toInt h3 h4]
  · have h6 : (a.tdiv b).natAbs ≤ a.natAbs := by rw [Int.natAbs_tdiv]; exact Nat.div_le_self _ _
    by_cases ha : a = -2147483648
    · subst ha
      by_cases hb : b = 0
      · subst hb; rfl
      · have : 2 ≤ b ∨ b = 1 ∨ b ≤ -2 := by omega
        rcases this with hb | rfl | hb
        · have h7 : ((-2147483648 : Int).tdiv b).natAbs ≤ 2147483648 / 2 := by
            rw [Int.natAbs_tdiv]
            exact Nat.div_le_div_left (by omega) (by decide)
          rw [iI_toInt (by omega) (by omega)]
        · rfl
        · have h7 : ((-2147483648 : Int).tdiv b).natAbs ≤ 2147483648 / 2 := by
            rw [Int.natAbs_tdiv]
            exact Nat.div_le_div_left (by omega) (by decide)
          rw [iI_toInt (by omega) (by omega)]
    · rw [iI_toInt (by omega) (by omega)]
  · have := congrArg Int32.toInt e
    rw [iI_toInt h3 h4] at this
    exact this
/-- division of what isn't negative -/
theorem iI_dn {a b : Int} (h1 : 0 ≤ a) (h2 : a < 2147483648) (h3 : 0 < b) (h4 : b < 2147483648) : iI a / iI b = iI (a / b) := by
  rw [iI_d (by omega) h2 (by omega) h4 (by omega), Int.tdiv_eq_ediv_of_nonneg h1]
theorem iI_ne0 {b : Int} (h1 : b ≠ 0) (h3 : -2147483648 ≤ b) (h4 : b < 2147483648) : ¬ iI b = 0 := fun e => h1 ((iI_eq h3 h4 (b := 0) (by decide) (by decide)).mp e)
theorem iI_rn {a b : Int} (h1 : 0 ≤ a) (h2 : a < 2147483648) (h3 : 0 < b) (h4 : b < 2147483648) : iI a - iI a / iI b * iI b = iI (a % b) := by
  rw [iI_dn h1 h2 h3 h4, iI_m, iI_s, Int.emod_def, Int.mul_comm b]
/-- sums -/
def sI (f : Nat → Int) : Nat → Int
  | 0 => 0
  | n + 1 => sI f n + f n
theorem sI_c {f g : Nat → Int} {n : Nat} (h : ∀ i, i < n → f i = g i) : sI f n = sI g n := by
  induction n with
  | zero => rfl
  | succ n ih => show sI f n + f n = sI g n + g n; rw [ih (fun i hi => h i (by omega)), h n (by omega)]
theorem sI_b {f : Nat → Int} {n : Nat} {lo hi : Int} (h : ∀ i, i < n → lo ≤ f i ∧ f i ≤ hi) : n * lo ≤ sI f n ∧ sI f n ≤ n * hi := by
  induction n with
  | zero => simp [sI]
  | succ n ih =>
    have h1 := ih (fun i hi => h i (by omega))
    have h2 := h n (by omega)
    have e1 : ((n + 1 : Nat) : Int) * lo = n * lo + lo := by rw [Int.natCast_add, Int.add_mul]; simp
    have e2 : ((n + 1 : Nat) : Int) * hi = n * hi + hi := by rw [Int.natCast_add, Int.add_mul]; simp
    show _ ≤ sI f n + f n ∧ sI f n + f n ≤ _
    rw [e1, e2]
    omega
theorem sI_mono {f : Nat → Int} {n m : Nat} (hm : n ≤ m) (h : ∀ i, i < m → 0 ≤ f i) : sI f n ≤ sI f m := by
  induction m with
  | zero => have : n = 0 := by omega
            subst this; exact Int.le_refl _
  | succ m ih =>
    by_cases e : n = m + 1
    · subst e; exact Int.le_refl _
    · have h1 := ih (by omega) (fun i hi => h i (by omega))
      have h2 := h m (by omega)
      show _ ≤ sI f m + f m
      omega
