/-! the World written -/
/-- cells come, the class's stay where they are; what it costs -/
def Hol (c : Nat) (d d' : dm_D) : Prop := d.1 ≤ d'.1 ∧ d'.2.1 ≤ d.2.1 + c ∧ ∀ i g, i < d.1 → d.2.2 i = .inr (.inr (.inr g)) → d'.2.2 i = .inr (.inr (.inr g))
section WOP
variable {X : dm_X} {d d1 d2 d' : dm_D} {w li p n k c m q : Nat} {mc : Int32} {e e' : am_G × Nat} {f : Nat → Nat} {v v' : pv_T} {tx : am_v} {N : Nat → Nat} {M : Nat → Int32} {E : Nat → am_G × Nat} {F : Nat → Nat → Nat} {u u' : Nat → Int32}
theorem Hol.rf : Hol 0 d d := ⟨Nat.le_refl _, Nat.le_refl _, fun _ _ _ h => h⟩
theorem Hol.tr {a b : Nat} (h : Hol a d d1) (h2 : Hol b d1 d2) : Hol (a + b) d d2 := ⟨Nat.le_trans h.1 h2.1, by have := h.2.1; have := h2.2.1; omega, fun i g hi e => h2.2.2 i g (Nat.lt_of_lt_of_le hi h.1) (h.2.2 i g hi e)⟩
theorem Hol.le {a b : Nat} (h : Hol a d d1) (hab : a ≤ b) : Hol b d d1 := ⟨h.1, by have := h.2.1; omega, h.2.2⟩
theorem Ext.hol (h : Ext c d d') : Hol c d d' := ⟨h.1, h.2.1, fun i g hi e => (h.2.2 i hi).trans e⟩
theorem Hol.full (h : Hol c d d') (hf : dm_full d) : dm_full d' := fun g o ok => by
  obtain ⟨i, hi, e⟩ := hf g o ok
  exact ⟨i, Nat.lt_of_lt_of_le hi h.1, h.2.2 i _ hi e⟩
theorem Hol.ob {fs : List am_v} {x : dm_C} (o : dOb d li c fs) : Hol 0 d (dm_se d li x) := ⟨Nat.le_refl _, Nat.le_refl _, fun i g hi e => (se_ne (fun z => by rw [z, o.2] at e; cases e)).trans e⟩
theorem Hol.ar {x : dm_C} (o : dAr d q n m u) : Hol 0 d (dm_se d q x) := ⟨Nat.le_refl _, Nat.le_refl _, fun i g hi e => (se_ne (fun z => by rw [z, o.2] at e; cases e)).trans e⟩
/-- what stays when some cells change -/
theorem LiE.ag (h1 : d.1 ≤ d'.1) (h2 : d'.2.2 li = d.2.2 li) (h3 : ∀ r, e = (.inl 0, r) → d'.2.2 r = d.2.2 r) (L : LiE d li mc e n f) : LiE d' li mc e n f := ⟨⟨Nat.lt_of_lt_of_le L.1.1 h1, h2.trans L.1.2⟩, L.2.1, L.2.2.imp (fun ⟨r, cap, g, q1, q2, q3⟩ => ⟨r, cap, g, q1, ⟨Nat.lt_of_lt_of_le q2.1 h1, (h3 r q1).trans q2.2⟩, q3⟩) id⟩
theorem LiE.r_ob {fs : List am_v} {i : Nat} (L : LiE d li mc e n f) (o : dOb d i c fs) : ∀ r, e = (.inl 0, r) → r ≠ i := fun r hr => by
  rcases L.2.2 with ⟨r2, cap, g, h1, h2, -⟩ | ⟨h1, -⟩
  · rw [h1] at hr
    cases hr
    exact li_ne o h2
  · rw [h1] at hr
    cases hr
theorem LiE.r_ar {i t m : Nat} {u : Nat → Int32} (L : LiE d li mc e n f) (o : dAr d i t m u) : ∀ r, e = (.inl 0, r) → r ≠ i := fun r hr => by
  rcases L.2.2 with ⟨r2, cap, g, h1, h2, -⟩ | ⟨h1, -⟩
  · rw [h1] at hr
    cases hr
    exact Ne.symm (ar_rr h2 o)
  · rw [h1] at hr
    cases hr
theorem ob_ne {i j c c' : Nat} {fs fs' : List am_v} (o : dOb d i c fs) (o' : dOb d j c' fs') (h : c ≠ c') : i ≠ j := fun z => by
  have a := o.2
  have b := o'.2
  rw [z, b] at a
  cases a
  exact h rfl
theorem ar_len {i j t t' m m' : Nat} {u u' : Nat → Int32} (o : dAr d i t m u) (o' : dAr d j t' m' u') (h : m ≠ m') : i ≠ j := fun z => by
  have a := o.2
  have b := o'.2
  rw [z, b] at a
  cases a
  exact h rfl
theorem dAr.ag (h1 : d.1 ≤ d'.1) {i t m : Nat} {u : Nat → Int32} (h2 : d'.2.2 i = d.2.2 i) (o : dAr d i t m u) : dAr d' i t m u := ⟨Nat.lt_of_lt_of_le o.1 h1, h2.trans o.2⟩
theorem LiE.sg {i : Nat} {x : dm_C} (L : LiE d li mc e n f) (h2 : li ≠ i) (h3 : ∀ r, e = (.inl 0, r) → r ≠ i) : LiE (dm_se d i x) li mc e n f := L.ag (d' := dm_se d i x) (Nat.le_refl d.1) (se_ne h2) (fun r hr => se_ne (h3 r hr))
theorem dAr.sg {i j t m : Nat} {u : Nat → Int32} {x : dm_C} (o : dAr d j t m u) (h : j ≠ i) : dAr (dm_se d i x) j t m u := ⟨o.1, (se_ne h).trans o.2⟩
/-- the World's own numbers -/
def wF (v : pv_T) (N : Nat → Nat) (tx : am_v) : List am_v := [am_i (iI (v.2 0 0)), am_i (iI (v.2 0 1)), am_i (iI (v.2 0 2)), am_i (iI (v.2 0 3)), am_i (iI (v.2 0 4)), dm_o (N 0), dm_o (N 1), dm_o (N 2), dm_o (N 3), dm_o (N 4), tx]
theorem WR.w0 (R : WR d w v tx N M E F) (e1 : v'.1 = v.1) (e2 : ∀ c, c ≠ 0 → v'.2 c = v.2 c) : WR (dm_se d w (.inl (12, wF v' N tx))) w v' tx N M E F := by
  obtain ⟨r1, ⟨f, r2, r3⟩, ⟨r4, r5, r6, r7⟩, r8, r9, r10, r11⟩ := R
  have hl : ∀ {li mc e n f}, LiE d li mc e n f → LiE (dm_se d w (.inl (12, wF v' N tx))) li mc e n f := fun L => L.sg (ob_ne L.1 r1 (by omega)) (L.r_ob r1)
  have ha : ∀ {i t m u}, dAr d i t m u → dAr (dm_se d w (.inl (12, wF v' N tx))) i t m u := fun o => o.sg (ar_ne r1 o)
  unfold WR
  rw [e1, e2 1 (by omega), e2 2 (by omega), e2 3 (by omega), e2 4 (by omega), e2 5 (by omega), e2 6 (by omega), e2 7 (by omega), e2 8 (by omega), e2 12 (by omega), e2 13 (by omega)]
  refine ⟨dOb.se r1.1, ⟨f, ha r2, r3⟩, ⟨hl r4, hl r5, hl r6, hl r7⟩, fun i hi => ?_, fun i hi => ?_, fun i hi => ?_, r11⟩
  · obtain ⟨f, a, b⟩ := r8 i hi
    exact ⟨f, ha a, b⟩
  · obtain ⟨f, a, b⟩ := r9 i hi
    exact ⟨f, ha a, b⟩
  · obtain ⟨f, a, b⟩ := r10 i hi
    exact ⟨f, ha a, b⟩
/-- a row of numbers is written -/
theorem WR.row (R : WR d w v tx N M E F) (hq : dAr d q 0 m u) (e1 : v'.1 = v.1) (e0 : v'.2 0 = v.2 0)
    (h1 : ∃ f, dAr (dm_se d q (.inr (.inl (0, m, u')))) (N 0) 0 26 f ∧ ∀ i, i < 26 → f i = iI (v'.2 8 i))
    (h2 : ∀ i, i < v.1 0 → ∃ f, dAr (dm_se d q (.inr (.inl (0, m, u')))) (F 1 i) 0 4 f ∧ f 0 = iI (v'.2 1 i) ∧ f 1 = iI (v'.2 2 i) ∧ f 2 = iI (v'.2 3 i) ∧ f 3 = iI (v'.2 4 i))
    (h3 : ∀ i, i < v.1 1 → ∃ f, dAr (dm_se d q (.inr (.inl (0, m, u')))) (F 2 i) 0 3 f ∧ f 0 = iI (v'.2 5 i) ∧ f 1 = iI (v'.2 6 i) ∧ f 2 = iI (v'.2 7 i))
    (h4 : ∀ i, i < v.1 3 → ∃ f, dAr (dm_se d q (.inr (.inl (0, m, u')))) (F 4 i) 0 2 f ∧ f 0 = iI (v'.2 12 i) ∧ f 1 = iI (v'.2 13 i)) : WR (dm_se d q (.inr (.inl (0, m, u')))) w v' tx N M E F := by
  obtain ⟨r1, -, ⟨r4, r5, r6, r7⟩, r8, r9, r10, r11⟩ := R
  have hl : ∀ {li mc e n f}, LiE d li mc e n f → LiE (dm_se d q (.inr (.inl (0, m, u')))) li mc e n f := fun L => L.sg (Ne.symm (ar_ne L.1 hq)) (L.r_ar hq)
  unfold WR
  rw [e1, e0]
  exact ⟨⟨r1.1, (se_ne (Ne.symm (ar_ne r1 hq))).trans r1.2⟩, h1, ⟨hl r4, hl r5, hl r6, hl r7⟩, h2, h3, h4, r11⟩
theorem WR.wide (R : WR d w v tx N M E F) (hk : k < 26) {x : Int} (hq : dAr d (N 0) 0 26 u) (hu : ∀ i, i < 26 → u i = iI (v.2 8 i)) : WR (dm_se d (N 0) (.inr (.inl (0, 26, upd u k (iI x))))) w (pu v 8 k x) tx N M E F := by
  refine R.row hq rfl (by funext i; exact pu_o (by omega)) ⟨_, dAr.se hq.1, fun i hi => ?_⟩ (fun i hi => ?_) (fun i hi => ?_) (fun i hi => ?_)
  · show (if i = k then iI x else u i) = iI (if (8 : Nat) = 8 then (if i = k then x else v.2 8 i) else v.2 8 i)
    rw [if_pos rfl]
    by_cases h : i = k
    · rw [if_pos h, if_pos h]
    · rw [if_neg h, if_neg h, hu i hi]
  · obtain ⟨f, a, b⟩ := R.2.2.2.1 i hi
    exact ⟨f, a.sg (ar_len a hq (by omega)), b⟩
  · obtain ⟨f, a, b⟩ := R.2.2.2.2.1 i hi
    exact ⟨f, a.sg (ar_len a hq (by omega)), b⟩
  · obtain ⟨f, a, b⟩ := R.2.2.2.2.2.1 i hi
    exact ⟨f, a.sg (ar_len a hq (by omega)), b⟩
theorem WR.rad (R : WR d w v tx N M E F) (hk : k < v.1 0) {x : Int} (hq : dAr d (F 1 k) 0 4 u) (hu : u 1 = iI (v.2 2 k) ∧ u 2 = iI (v.2 3 k) ∧ u 3 = iI (v.2 4 k)) : WR (dm_se d (F 1 k) (.inr (.inl (0, 4, upd u 0 (iI x))))) w (pu v 1 k x) tx N M E F := by
  have hinj := R.2.2.2.2.2.2.2.2.1
  refine R.row hq rfl (by funext i; exact pu_o (by omega)) ?_ (fun i hi => ?_) (fun i hi => ?_) (fun i hi => ?_)
  · obtain ⟨f, a, b⟩ := R.2.1
    exact ⟨f, a.sg (ar_len a hq (by omega)), b⟩
  · by_cases h : i = k
    · subst h
      exact ⟨_, dAr.se hq.1, by rw [pu_s]; rfl, hu.1, hu.2.1, hu.2.2⟩
    · obtain ⟨f, a, b⟩ := R.2.2.2.1 i hi
      refine ⟨f, a.sg (fun z => h (hinj i k hi hk z)), ?_⟩
      rw [pu_i h, pu_o (by omega), pu_o (by omega), pu_o (by omega)]
      exact b
  · obtain ⟨f, a, b⟩ := R.2.2.2.2.1 i hi
    exact ⟨f, a.sg (ar_len a hq (by omega)), b⟩
  · obtain ⟨f, a, b⟩ := R.2.2.2.2.2.1 i hi
    exact ⟨f, a.sg (ar_len a hq (by omega)), b⟩
theorem WR.let1 (R : WR d w v tx N M E F) (hk : k < v.1 1) {x : Int} (hq : dAr d (F 2 k) 0 3 u) (hu : u 0 = iI (v.2 5 k) ∧ u 2 = iI (v.2 7 k)) : WR (dm_se d (F 2 k) (.inr (.inl (0, 3, upd u 1 (iI x))))) w (pu v 6 k x) tx N M E F := by
  have hinj := R.2.2.2.2.2.2.2.2.2
  refine R.row hq rfl (by funext i; exact pu_o (by omega)) ?_ (fun i hi => ?_) (fun i hi => ?_) (fun i hi => ?_)
  · obtain ⟨f, a, b⟩ := R.2.1
    exact ⟨f, a.sg (ar_len a hq (by omega)), b⟩
  · obtain ⟨f, a, b⟩ := R.2.2.2.1 i hi
    exact ⟨f, a.sg (ar_len a hq (by omega)), b⟩
  · by_cases h : i = k
    · subst h
      exact ⟨_, dAr.se hq.1, hu.1, by rw [pu_s]; rfl, hu.2⟩
    · obtain ⟨f, a, b⟩ := R.2.2.2.2.1 i hi
      refine ⟨f, a.sg (fun z => h (hinj i k hi hk z)), ?_⟩
      rw [pu_i h, pu_o (by omega), pu_o (by omega)]
      exact b
  · obtain ⟨f, a, b⟩ := R.2.2.2.2.2.1 i hi
    exact ⟨f, a.sg (ar_len a hq (by omega)), b⟩
theorem WR.let2 (R : WR d w v tx N M E F) (hk : k < v.1 1) {x : Int} (hq : dAr d (F 2 k) 0 3 u) (hu : u 0 = iI (v.2 5 k) ∧ u 1 = iI (v.2 6 k)) : WR (dm_se d (F 2 k) (.inr (.inl (0, 3, upd u 2 (iI x))))) w (pu v 7 k x) tx N M E F := by
  have hinj := R.2.2.2.2.2.2.2.2.2
  refine R.row hq rfl (by funext i; exact pu_o (by omega)) ?_ (fun i hi => ?_) (fun i hi => ?_) (fun i hi => ?_)
  · obtain ⟨f, a, b⟩ := R.2.1
    exact ⟨f, a.sg (ar_len a hq (by omega)), b⟩
  · obtain ⟨f, a, b⟩ := R.2.2.2.1 i hi
    exact ⟨f, a.sg (ar_len a hq (by omega)), b⟩
  · by_cases h : i = k
    · subst h
      exact ⟨_, dAr.se hq.1, hu.1, hu.2, by rw [pu_s]; rfl⟩
    · obtain ⟨f, a, b⟩ := R.2.2.2.2.1 i hi
      refine ⟨f, a.sg (fun z => h (hinj i k hi hk z)), ?_⟩
      rw [pu_i h, pu_o (by omega), pu_o (by omega)]
      exact b
  · obtain ⟨f, a, b⟩ := R.2.2.2.2.2.1 i hi
    exact ⟨f, a.sg (ar_len a hq (by omega)), b⟩
end WOP
