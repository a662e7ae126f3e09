/-! what a plate is: how many arcs, letters, kinds, scratches (0..3); its numbers, by what (rows as below) and place -/
abbrev pv_T : Type := (Nat → Nat) × (Nat → Nat → Int)
/- v.2: 0: sharp, margin, x, slips, strokes; 1 radius, 2 degrees, 3 right, 4 hardness; 5 places, 6 engraved, 7 mends; 8 widths; 9 widths, 10 worths, 11 stocks of kinds; 12 letters, 13 reaches of scratches; 14 names of kinds, 8 bytes each -/
def pv_ok (v : pv_T) : Prop :=
  (v.1 0 ≤ 8 ∧ v.1 1 ≤ 20 ∧ v.1 2 ≤ 6 ∧ v.1 3 ≤ 44) ∧
  (∀ i, i < v.1 0 → 1 ≤ v.2 1 i ∧ v.2 1 i ≤ 199 ∧ 1 ≤ v.2 2 i ∧ v.2 2 i ≤ 180 ∧ 0 ≤ v.2 3 i ∧ v.2 3 i ≤ 1 ∧ 0 ≤ v.2 4 i ∧ v.2 4 i ≤ 99) ∧
  (∀ i, i < v.1 1 → 0 ≤ v.2 5 i ∧ v.2 5 i ≤ 25 ∧ 0 ≤ v.2 6 i ∧ v.2 6 i ≤ 1 ∧ 0 ≤ v.2 7 i ∧ v.2 7 i ≤ 3) ∧
  (∀ i, i < 26 → 1 ≤ v.2 8 i ∧ v.2 8 i ≤ 99) ∧
  (∀ i, i < v.1 2 → 1 ≤ v.2 9 i ∧ v.2 9 i ≤ 99 ∧ 1 ≤ v.2 10 i ∧ v.2 10 i ≤ 99 ∧ 1 ≤ v.2 11 i ∧ v.2 11 i ≤ 9) ∧
  (∀ i, i < v.1 3 → 0 ≤ v.2 12 i ∧ v.2 12 i < v.1 1 ∧ 100 ≤ v.2 13 i ∧ v.2 13 i ≤ 2000) ∧
  (0 ≤ v.2 0 0 ∧ v.2 0 0 ≤ 99 ∧ 0 ≤ v.2 0 1 ∧ v.2 0 1 ≤ 99)
/-- turns and parts ahead of an arc; the arc of a turn; parts and bend up to a turn -/
def pv_tA (v : pv_T) (n : Nat) : Int := sI (fun i => 10 * v.2 2 i) n
def pv_pA (v : pv_T) (n : Nat) : Int := sI (fun i => v.2 1 i * (10 * v.2 2 i)) n
def pv_wT (v : pv_T) : Int := pv_tA v (v.1 0)
def pv_wP (v : pv_T) : Int := pv_pA v (v.1 0)
/-- from i on, n places: the first at which p holds; i + n if none -/
def pv_fst (p : Nat → Bool) : Nat → Nat → Nat
  | 0, i => i
  | n + 1, i => if p i = true then i else pv_fst p n (i + 1)
theorem pv_fst_t {p : Nat → Bool} {n i : Nat} (h : p i = true) : pv_fst p (n + 1) i = i := if_pos h
theorem pv_fst_f {p : Nat → Bool} {n i : Nat} (h : p i = false) : pv_fst p (n + 1) i = pv_fst p n (i + 1) := if_neg (by rw [h]; decide)
theorem pv_fst_le (p : Nat → Bool) : ∀ (n i : Nat), i ≤ pv_fst p n i ∧ pv_fst p n i ≤ i + n
  | 0, i => ⟨Nat.le_refl _, Nat.le_refl _⟩
  | n + 1, i => by
    have h := pv_fst_le p n (i + 1)
    unfold pv_fst
    split <;> omega
theorem pv_fst_at (p : Nat → Bool) : ∀ (n i : Nat), pv_fst p n i < i + n → p (pv_fst p n i) = true
  | 0, i, h => by simp [pv_fst] at h
  | n + 1, i, h => by
    unfold pv_fst at h ⊢
    by_cases c : p i = true
    · rw [if_pos c]; exact c
    · rw [if_neg c] at h ⊢
      exact pv_fst_at p n (i + 1) (by omega)
theorem pv_fst_lt (p : Nat → Bool) : ∀ (n i j : Nat), i ≤ j → j < pv_fst p n i → p j = false
  | 0, i, j, h, h2 => by simp [pv_fst] at h2; omega
  | n + 1, i, j, h, h2 => by
    unfold pv_fst at h2
    by_cases c : p i = true
    · rw [if_pos c] at h2; omega
    · rw [if_neg c] at h2
      by_cases e : j = i
      · subst e; simpa using c
      · exact pv_fst_lt p n (i + 1) j (by omega) h2
/-- the arc of a turn, -1 without arcs -/
def pv_ar (v : pv_T) (t : Int) : Int :=
  if pv_fst (fun i => decide (t < pv_tA v (i + 1))) (v.1 0) 0 < v.1 0 then (pv_fst (fun i => decide (t < pv_tA v (i + 1))) (v.1 0) 0 : Int) else (v.1 0 : Int) - 1
def pv_hd (v : pv_T) (t : Int) : Int := if 0 ≤ pv_ar v t then v.2 4 (pv_ar v t).toNat else 0
/-- how much of arc i lies ahead of the turn t -/
def pv_ps (v : pv_T) (t : Int) (i : Nat) : Int := if t < pv_tA v i then 0 else if t - pv_tA v i ≤ 10 * v.2 2 i then t - pv_tA v i else 10 * v.2 2 i
def pv_pT (v : pv_T) (t : Int) (n : Nat) : Int := sI (fun i => v.2 1 i * pv_ps v t i) n
def pv_bT (v : pv_T) (t : Int) (n : Nat) : Int := sI (fun i => if v.2 3 i = 0 then pv_ps v t i else - pv_ps v t i) n
/-- the turn at which there are so many parts -/
def pv_tW (v : pv_T) (q : Int) : Int :=
  if pv_fst (fun i => decide (q < pv_pA v (i + 1))) (v.1 0) 0 < v.1 0 then pv_tA v (pv_fst (fun i => decide (q < pv_pA v (i + 1))) (v.1 0) 0) + (q - pv_pA v (pv_fst (fun i => decide (q < pv_pA v (i + 1))) (v.1 0) 0)) / v.2 1 (pv_fst (fun i => decide (q < pv_pA v (i + 1))) (v.1 0) 0) else pv_wT v
/-- the bend behind whole arcs, and the greatest -/
def pv_bA (v : pv_T) (n : Nat) : Int := sI (fun i => if v.2 3 i = 0 then 10 * v.2 2 i else - (10 * v.2 2 i)) n
def pv_gB (v : pv_T) : Nat → Int
  | 0 => 0
  | n + 1 => if pv_gB v n < pv_bA v (n + 1) then pv_bA v (n + 1) else pv_gB v n
theorem pv_tA_b {v : pv_T} (hv : pv_ok v) {n : Nat} (h : n ≤ v.1 0) : 0 ≤ pv_tA v n ∧ pv_tA v n ≤ 14400 := by
  have h1 := sI_b (f := fun i => 10 * v.2 2 i) (n := n) (lo := 0) (hi := 1800) (fun i hi => by have := hv.2.1 i (by omega); omega)
  have h2 := hv.1.1
  unfold pv_tA
  omega
theorem pv_pA_b {v : pv_T} (hv : pv_ok v) {n : Nat} (h : n ≤ v.1 0) : 0 ≤ pv_pA v n ∧ pv_pA v n ≤ 2865600 := by
  have h1 := sI_b (f := fun i => v.2 1 i * (10 * v.2 2 i)) (n := n) (lo := 0) (hi := 358200) (fun i hi => by
    have q := hv.2.1 i (by omega)
    refine ⟨Int.mul_nonneg (by omega) (by omega), ?_⟩
    have a1 : v.2 1 i * (10 * v.2 2 i) ≤ 199 * (10 * v.2 2 i) := Int.mul_le_mul_of_nonneg_right (by omega) (by omega)
    omega)
  have h2 := hv.1.1
  unfold pv_pA
  omega
theorem pv_tA_s (v : pv_T) (n : Nat) : pv_tA v (n + 1) = pv_tA v n + 10 * v.2 2 n := rfl
theorem pv_pA_s (v : pv_T) (n : Nat) : pv_pA v (n + 1) = pv_pA v n + v.2 1 n * (10 * v.2 2 n) := rfl
/-- where memory changed -/
def am_fx (S : am_G → Nat → Prop) (h h9 : am_H) : Prop := (∀ g o, ¬ S g o → h9.1 g o = h.1 g o) ∧ h9.2 = h.2
theorem am_fx.rf {S : am_G → Nat → Prop} {h : am_H} : am_fx S h h := ⟨fun _ _ _ => rfl, rfl⟩
theorem am_fx.tr {S : am_G → Nat → Prop} {h h1 h2 : am_H} (a : am_fx S h h1) (b : am_fx S h1 h2) : am_fx S h h2 := ⟨fun g o n => (b.1 g o n).trans (a.1 g o n), b.2.trans a.2⟩
theorem am_fx.mono {S S' : am_G → Nat → Prop} {h h1 : am_H} (a : am_fx S h h1) (m : ∀ g o, S g o → S' g o) : am_fx S' h h1 := ⟨fun g o n => a.1 g o (fun z => n (m g o z)), a.2⟩
theorem am_fx.u {S : am_G → Nat → Prop} {h : am_H} {g : am_G} {o i : Nat} {x : Int32} (hs : S g o) : am_fx S h (am_u h g o i x) := ⟨fun g' o' n => am_u_row (fun e => n (by cases e; exact hs)), rfl⟩
theorem am_u_at {h : am_H} {g g' : am_G} {o o' i i' : Nat} {x : Int32} : (am_u h g o i x).1 g' o' i' = if g' = g ∧ o' = o ∧ i' = i then x else h.1 g' o' i' := rfl
/-- the class's plate k holds the curve, the letters, the kinds, the graver, the scratches of v -/
def cl_cu (h : am_H) (k : Nat) (v : pv_T) : Prop := h.1 (.inr k) 1 4 = iI (v.1 0) ∧ ∀ i, i < v.1 0 → h.1 (.inr k) 2 i = iI (v.2 1 i) ∧ h.1 (.inr k) 3 i = iI (v.2 2 i) ∧ h.1 (.inr k) 4 i = iI (v.2 4 i) ∧ h.1 (.inr k) 5 i = iI (v.2 3 i)
def cl_na (h : am_H) (k : Nat) (v : pv_T) : Prop := h.1 (.inr k) 6 4 = iI (v.1 1) ∧ (∀ i, i < v.1 1 → h.1 (.inr k) 7 i = iI (v.2 5 i) ∧ h.1 (.inr k) 8 i = iI (v.2 6 i) ∧ h.1 (.inr k) 9 i = iI (v.2 7 i)) ∧ ∀ i, i < 26 → h.1 (.inr k) 10 i = iI (v.2 8 i)
def cl_ki (h : am_H) (k : Nat) (v : pv_T) : Prop := h.1 (.inr k) 11 4 = iI (v.1 2) ∧ (∀ i, i < v.1 2 → h.1 (.inr k) 13 i = iI (v.2 9 i) ∧ h.1 (.inr k) 14 i = iI (v.2 10 i) ∧ h.1 (.inr k) 15 i = iI (v.2 11 i)) ∧ ∀ i, i < 8 * v.1 2 → h.1 (.inr k) 12 i = iI (v.2 14 i)
def cl_gr (h : am_H) (g : am_G) (o : Nat) (v : pv_T) : Prop := h.1 g o 0 = iI (v.2 0 0) ∧ h.1 g o 1 = iI (v.2 0 2) ∧ h.1 g o 2 = iI (v.2 0 3) ∧ h.1 g o 3 = iI (v.2 0 4)
def cl_sc (h : am_H) (k : Nat) (v : pv_T) : Prop := h.1 (.inr k) 17 2 = iI (v.1 3) ∧ ∀ i, i < v.1 3 → h.1 (.inr k) 18 i = iI (v.2 12 i) ∧ h.1 (.inr k) 19 i = iI (v.2 13 i)
def cl_pl (h : am_H) (k : Nat) (v : pv_T) : Prop := cl_cu h k v ∧ cl_na h k v ∧ cl_ki h k v ∧ cl_gr h (.inr k) 16 v ∧ cl_sc h k v ∧ h.1 (.inr k) 0 5 = iI (v.2 0 1)
