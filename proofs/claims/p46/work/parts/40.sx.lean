/-! numbers in functions: rows for simp, with omega for what they ask -/
theorem xI_le {a b : Int} (h1 : -2147483648 ≤ a) (h2 : a < 2147483648) (h3 : -2147483648 ≤ b) (h4 : b < 2147483648) : (iI a ≤ iI b) = (a ≤ b) := propext (iI_le h1 h2 h3 h4)
theorem xI_lt {a b : Int} (h1 : -2147483648 ≤ a) (h2 : a < 2147483648) (h3 : -2147483648 ≤ b) (h4 : b < 2147483648) : (iI a < iI b) = (a < b) := propext (iI_lt h1 h2 h3 h4)
theorem xI_eq {a b : Int} (h1 : -2147483648 ≤ a) (h2 : a < 2147483648) (h3 : -2147483648 ≤ b) (h4 : b < 2147483648) : (iI a = iI b) = (a = b) := propext (iI_eq h1 h2 h3 h4)
theorem xI_0 : (0 : Int32) = iI 0 := rfl
theorem xI_1 : (1 : Int32) = iI 1 := rfl
theorem xI_ib {z : Int} {n : Nat} (h1 : 0 ≤ z) (h2 : z < n) (h3 : n < 2147483648) : ib (iI z) n = True := by
  have e := iI_toInt (a := z) (by omega) (by omega)
  exact propext ⟨fun _ => trivial, fun _ => by unfold ib; rw [e]; exact ⟨h1, h2⟩⟩
theorem xI_cl {z : Int} (h1 : 0 ≤ z) (h2 : z < 2147483648) : (iI z).toNatClampNeg = z.toNat := iI_clz h1 h2
theorem xI_n (a : Int) : - iI a = iI (-a) := iI_n a
theorem xI_dn {a b : Int} (h1 : 0 ≤ a) (h2 : a < 2147483648) (h3 : 0 < b) (h4 : b < 2147483648) : iI a / iI b = iI (a / b) := iI_dn h1 h2 h3 h4
theorem ch_to {α : Type} (F : Nat → α) {m n : Nat} (hmn : m ≤ n) (hs : ∀ i, m ≤ i → i < n → F i = F (i + 1)) : F m = F n := by
  induction n with
  | zero => have : m = 0 := by omega
            subst this; rfl
  | succ n ih =>
    by_cases e : m = n + 1
    · subst e; rfl
    · rw [ih (by omega) (fun i h1 h2 => hs i h1 (by omega)), hs n (by omega) (by omega)]
/-- a relation kept along a loop -/
theorem ch_rel {σ α : Type} (F : Nat → σ → α) (P : Nat → σ → Prop) {n : Nat} (hs : ∀ i s, i < n → P i s → ∃ s', F i s = F (i + 1) s' ∧ P (i + 1) s') {s0 : σ} (h0 : P 0 s0) : ∃ s', F 0 s0 = F n s' ∧ P n s' := by
  induction n with
  | zero => exact ⟨s0, rfl, h0⟩
  | succ n ih =>
    obtain ⟨s1, e1, p1⟩ := ih (fun i s hi hp => hs i s (by omega) hp)
    obtain ⟨s2, e2, p2⟩ := hs n s1 (by omega) p1
    exact ⟨s2, e1.trans e2, p2⟩
abbrev bI (c : Prop) [Decidable c] : Int := if c then 1 else 0
/-- only these cells may have changed -/
def Wr (L : List (am_G × Nat)) (h h' : am_H) : Prop := (∀ g o, (g, o) ∉ L → h'.1 g o = h.1 g o) ∧ (∀ g o, (g, o) ∉ L → h'.2.1 g o = h.2.1 g o) ∧ h'.2.2 = h.2.2
theorem Wr.rf {L : List (am_G × Nat)} {h : am_H} : Wr L h h := ⟨fun _ _ _ => rfl, fun _ _ _ => rfl, rfl⟩
theorem Wr.tr {L : List (am_G × Nat)} {h h1 h2 : am_H} (a : Wr L h h1) (b : Wr L h1 h2) : Wr L h h2 := ⟨fun g o n => (b.1 g o n).trans (a.1 g o n), fun g o n => (b.2.1 g o n).trans (a.2.1 g o n), b.2.2.trans a.2.2⟩
theorem Wr.mono {L L' : List (am_G × Nat)} {h h1 : am_H} (a : Wr L h h1) (m : ∀ x ∈ L, x ∈ L') : Wr L' h h1 := ⟨fun g o n => a.1 g o (fun z => n (m _ z)), fun g o n => a.2.1 g o (fun z => n (m _ z)), a.2.2⟩
theorem Wr.u {L : List (am_G × Nat)} {h : am_H} {g : am_G} {o i : Nat} {x : Int32} (hs : (g, o) ∈ L) : Wr L h (am_u h g o i x) := ⟨fun g' o' n => am_u_row (fun e => n (by rw [e]; exact hs)), fun _ _ _ => rfl, rfl⟩
theorem Wr.ul {L : List (am_G × Nat)} {h : am_H} {g : am_G} {o i : Nat} {x : Int64} (hs : (g, o) ∈ L) : Wr L h (am_ul h g o i x) := ⟨fun _ _ _ => rfl, fun g' o' n => am_ul_row (fun e => n (by rw [e]; exact hs)), rfl⟩
theorem Wr.u1 {L : List (am_G × Nat)} {h h1 h2 : am_H} {g : am_G} {o i : Nat} {x : Int32} (hs : (g, o) ∈ L) (e : am_u h g o i x = h1) (b : Wr L h1 h2) : Wr L h h2 := by subst e; exact (Wr.u hs).tr b
theorem Wr.ul1 {L : List (am_G × Nat)} {h h1 h2 : am_H} {g : am_G} {o i : Nat} {x : Int64} (hs : (g, o) ∈ L) (e : am_ul h g o i x = h1) (b : Wr L h1 h2) : Wr L h h2 := by subst e; exact (Wr.ul hs).tr b
theorem xI_zb {c : Prop} [Decidable c] : zb (iI (bI c)) = True := by
  refine propext ⟨fun _ => trivial, fun _ => ?_⟩
  by_cases hc : c
  · exact Or.inr (by unfold bI; rw [if_pos hc]; rfl)
  · exact Or.inl (by unfold bI; rw [if_neg hc]; rfl)
theorem bI_0 {c : Prop} [Decidable c] : (bI c = 0) = ¬ c := by
  refine propext ⟨fun e hc => ?_, fun hc => ?_⟩
  · unfold bI at e; rw [if_pos hc] at e; cases e
  · unfold bI; rw [if_neg hc]
theorem if_bI0 {α : Type} {c : Prop} [Decidable c] {a b : α} : (if iI (bI c) = iI 0 then a else b) = if c then b else a := by
  have hb : -2147483648 ≤ bI c ∧ bI c < 2147483648 := by unfold bI; split <;> omega
  by_cases hc : c
  · rw [if_pos hc, if_neg (by rw [xI_eq hb.1 hb.2 (by omega) (by omega), bI_0]; exact fun z => z hc)]
  · rw [if_neg hc, if_pos (by rw [xI_eq hb.1 hb.2 (by omega) (by omega), bI_0]; exact hc)]
theorem if_bI1 {α : Type} {c : Prop} [Decidable c] {a b : α} : (if bI c = 0 then a else b) = if c then b else a := by
  by_cases hc : c
  · rw [if_pos hc, if_neg (by rw [bI_0]; exact fun z => z hc)]
  · rw [if_neg hc, if_pos (by rw [bI_0]; exact hc)]
theorem xI_rn {a b : Int} (h1 : 0 ≤ a) (h2 : a < 2147483648) (h3 : 0 < b) (h4 : b < 2147483648) : iI a - iI a / iI b * iI b = iI (a % b) := iI_rn h1 h2 h3 h4
theorem ite_bI {c : Prop} [Decidable c] : (if c then (some (iI 1) : Option Int32) else some (iI 0)) = some (iI (bI c)) := by unfold bI; split <;> rfl
theorem ite_bIn {c : Prop} [Decidable c] : (if c then (some (iI 0) : Option Int32) else some (iI 1)) = some (iI (bI (¬ c))) := by
  unfold bI
  by_cases hc : c
  · rw [if_pos hc, if_neg (fun z => z hc)]
  · rw [if_neg hc, if_pos hc]
theorem xL_i {z : Int} (h1 : -2147483648 ≤ z) (h2 : z < 2147483648) : (iI z).toInt64.toInt = z := by rw [Int32.toInt_toInt64, iI_toInt h1 h2]
theorem xL_0 : (0 : Int64).toInt = 0 := rfl
theorem xL_1 : (1 : Int64).toInt = 1 := rfl
theorem lg_lt {x y : Int64} : (lg_cmp x y < 0) = (x.toInt < y.toInt) := by
  unfold lg_cmp
  refine propext ?_
  split
  · next h => 
    have h : y < x := h
    rw [Int64.lt_iff_toInt_lt] at h
    exact ⟨fun e => absurd e (by decide), fun e => by omega⟩
  · next h =>
    have h : ¬ y < x := h
    rw [Int64.lt_iff_toInt_lt] at h
    split
    · next e => subst e; exact ⟨fun e => absurd e (by decide), fun e => by omega⟩
    · next e =>
      have e : x.toInt ≠ y.toInt := fun z => e (Int64.toInt_inj.mp z)
      exact ⟨fun _ => by omega, fun _ => by decide⟩
theorem lg_gt {x y : Int64} : (0 < lg_cmp x y) = (y.toInt < x.toInt) := by
  unfold lg_cmp
  refine propext ?_
  split
  · next h =>
    have h : y < x := h
    rw [Int64.lt_iff_toInt_lt] at h
    exact ⟨fun _ => h, fun _ => by decide⟩
  · next h =>
    have h : ¬ y < x := h
    rw [Int64.lt_iff_toInt_lt] at h
    split
    · exact ⟨fun e => absurd e (by decide), fun e => by omega⟩
    · exact ⟨fun e => absurd e (by decide), fun e => by omega⟩
theorem lg_le {x y : Int64} : (lg_cmp x y ≤ 0) = (x.toInt ≤ y.toInt) := by
  have h := @lg_gt x y
  refine propext ⟨fun q => ?_, fun q => ?_⟩
  · refine Int.not_lt.mp (fun z => ?_)
    rw [← h] at z
    rw [Int32.lt_iff_toInt_lt] at z
    rw [Int32.le_iff_toInt_le] at q
    omega
  · have z : ¬ 0 < lg_cmp x y := by rw [h]; omega
    rw [Int32.lt_iff_toInt_lt] at z
    rw [Int32.le_iff_toInt_le]
    omega
theorem lg_eq {x y : Int64} : (lg_cmp x y = 0) = (x = y) := by
  unfold lg_cmp
  refine propext ?_
  split
  · next h =>
    have h : y < x := h
    exact ⟨fun e => absurd e (by decide), fun e => by subst e; exact absurd h (by rw [Int64.lt_iff_toInt_lt]; omega)⟩
  · split
    · next e => exact ⟨fun _ => e, fun _ => rfl⟩
    · next e => exact ⟨fun z => absurd z (by decide), fun z => absurd z e⟩
theorem au_s {h : am_H} {g : am_G} {o i j : Nat} {x : Int32} : (am_u h g o i x).1 g o j = if j = i then x else h.1 g o j := by
  rw [am_u_self]; rfl
theorem Wr.P {L : List (am_G × Nat)} {h h' : am_H} {k : Nat} (w : Wr L h h') (n : ∀ x ∈ L, x.1 ≠ .inr k) : ∀ o, h'.1 (.inr k) o = h.1 (.inr k) o := fun o => w.1 _ _ (fun z => n _ z rfl)
theorem Wr.M {L : List (am_G × Nat)} {h h' : am_H} (w : Wr L h h') (n : ∀ x ∈ L, x.1 ≠ .inl 0) : ∀ o, h'.1 (.inl 0) o = h.1 (.inl 0) o := fun o => w.1 _ _ (fun z => n _ z rfl)
theorem cl_cu.eq {h h' : am_H} {k : Nat} {v : pv_T} (e : ∀ o, h'.1 (.inr k) o = h.1 (.inr k) o) (R : cl_cu h k v) : cl_cu h' k v := by unfold cl_cu; rw [e, e, e, e, e]; exact R
theorem cl_na.eq {h h' : am_H} {k : Nat} {v : pv_T} (e : ∀ o, h'.1 (.inr k) o = h.1 (.inr k) o) (R : cl_na h k v) : cl_na h' k v := by unfold cl_na; rw [e, e, e, e, e]; exact R
theorem cl_ki.eq {h h' : am_H} {k : Nat} {v : pv_T} (e : ∀ o, h'.1 (.inr k) o = h.1 (.inr k) o) (R : cl_ki h k v) : cl_ki h' k v := by unfold cl_ki; rw [e, e, e, e, e]; exact R
theorem cl_sc.eq {h h' : am_H} {k : Nat} {v : pv_T} (e : ∀ o, h'.1 (.inr k) o = h.1 (.inr k) o) (R : cl_sc h k v) : cl_sc h' k v := by unfold cl_sc; rw [e, e, e]; exact R
theorem cl_pl.eq {h h' : am_H} {k : Nat} {v : pv_T} (e : ∀ o, h'.1 (.inr k) o = h.1 (.inr k) o) (R : cl_pl h k v) : cl_pl h' k v := ⟨R.1.eq e, R.2.1.eq e, R.2.2.1.eq e, by unfold cl_gr; rw [e]; exact R.2.2.2.1, R.2.2.2.2.1.eq e, by rw [e]; exact R.2.2.2.2.2⟩
theorem xI_ti {z : Int} (h1 : -2147483648 ≤ z) (h2 : z < 2147483648) : (iI z).toInt = z := iI_toInt h1 h2
