/-! the World in the cells, and what it reads of itself -/
/-- the World w holds v; N: its row of widths, its lists; M, E, F: the lists' counts of changes, rows, elements -/
def WR (d : dm_D) (w : Nat) (v : pv_T) (tx : am_v) (N : Nat → Nat) (M : Nat → Int32) (E : Nat → am_G × Nat) (F : Nat → Nat → Nat) : Prop :=
  dOb d w 12 [am_i (iI (v.2 0 0)), am_i (iI (v.2 0 1)), am_i (iI (v.2 0 2)), am_i (iI (v.2 0 3)), am_i (iI (v.2 0 4)), dm_o (N 0), dm_o (N 1), dm_o (N 2), dm_o (N 3), dm_o (N 4), tx] ∧
  (∃ f, dAr d (N 0) 0 26 f ∧ ∀ i, i < 26 → f i = iI (v.2 8 i)) ∧
  (LiE d (N 1) (M 1) (E 1) (v.1 0) (F 1) ∧ LiE d (N 2) (M 2) (E 2) (v.1 1) (F 2) ∧ LiE d (N 3) (M 3) (E 3) (v.1 2) (F 3) ∧ LiE d (N 4) (M 4) (E 4) (v.1 3) (F 4)) ∧
  (∀ i, i < v.1 0 → ∃ f, dAr d (F 1 i) 0 4 f ∧ f 0 = iI (v.2 1 i) ∧ f 1 = iI (v.2 2 i) ∧ f 2 = iI (v.2 3 i) ∧ f 3 = iI (v.2 4 i)) ∧
  (∀ i, i < v.1 1 → ∃ f, dAr d (F 2 i) 0 3 f ∧ f 0 = iI (v.2 5 i) ∧ f 1 = iI (v.2 6 i) ∧ f 2 = iI (v.2 7 i)) ∧
  (∀ i, i < v.1 3 → ∃ f, dAr d (F 4 i) 0 2 f ∧ f 0 = iI (v.2 12 i) ∧ f 1 = iI (v.2 13 i)) ∧
  (N 4 ≠ N 1 ∧ N 4 ≠ N 2 ∧ N 4 ≠ N 3) ∧ (∀ r, E 4 = (.inl 0, r) → E 1 ≠ (.inl 0, r) ∧ E 2 ≠ (.inl 0, r) ∧ E 3 ≠ (.inl 0, r)) ∧
  (∀ i j, i < v.1 0 → j < v.1 0 → F 1 i = F 1 j → i = j) ∧ (∀ i j, i < v.1 1 → j < v.1 1 → F 2 i = F 2 j → i = j)
section WRS
variable {X : dm_X} {d d1 d2 d' : dm_D} {w li p n k c m : Nat} {mc : Int32} {e : am_G × Nat} {f : Nat → Nat} {v : pv_T} {tx : am_v} {N : Nat → Nat} {M : Nat → Int32} {E : Nat → am_G × Nat} {F : Nat → Nat → Nat}
theorem WR.ext (h : Ext c d d') (R : WR d w v tx N M E F) : WR d' w v tx N M E F := by
  obtain ⟨r1, ⟨f, r2, r3⟩, ⟨r4, r5, r6, r7⟩, r8, r9, r10, r11⟩ := R
  refine ⟨h.ob r1, ⟨f, h.ar r2, r3⟩, ⟨r4.ext h, r5.ext h, r6.ext h, r7.ext h⟩, fun i hi => ?_, fun i hi => ?_, fun i hi => ?_, r11⟩
  · obtain ⟨f, a, b⟩ := r8 i hi
    exact ⟨f, h.ar a, b⟩
  · obtain ⟨f, a, b⟩ := r9 i hi
    exact ⟨f, h.ar a, b⟩
  · obtain ⟨f, a, b⟩ := r10 i hi
    exact ⟨f, h.ar a, b⟩
theorem WR.arc (R : WR d w v tx N M E F) : LiE d (N 1) (M 1) (E 1) (v.1 0) (F 1) := R.2.2.1.1
theorem WR.let (R : WR d w v tx N M E F) : LiE d (N 2) (M 2) (E 2) (v.1 1) (F 2) := R.2.2.1.2.1
theorem WR.scr (R : WR d w v tx N M E F) : LiE d (N 4) (M 4) (E 4) (v.1 3) (F 4) := R.2.2.1.2.2.2
/-- an iterator at the end; one step of it -/
theorem it_end {β : Type} {A : Option β} {B : Unit → Int32 → Option β} (L : LiE d li mc e n f) (I : ItS d p li n mc) : ((dm_rk d (.inl 0, p) 15).bind (fun u1 => (F_Jx35411_hasNext_aae02 X (.inl 0, p) d).bind (fun a1 => if a1 = 0 then A else B u1 a1))) = A := by
  have I2 := I
  obtain ⟨lr, o⟩ := I
  rw [rk_at o, Option.bind_some, it_has L I2 (Nat.le_refl _), Option.bind_some, xI_0, if_bI0, if_neg (by omega)]
theorem it_go {g : Nat → Int32} {q : Nat} (L : LiE d li mc e n f) (I : ItS d p li k mc) (hk : k < n) (hg : dAr d (f k) 0 q g) (hp : p ≠ f k) : ∃ d', ItS d' p li (k + 1) mc ∧ (d'.1 = d.1 ∧ d'.2.1 = d.2.1 ∧ ∀ j, j ≠ p → d'.2.2 j = d.2.2 j) ∧ ∀ {β : Type} {A : Option β} {B : (am_G × Nat) × dm_D → Option β}, ((dm_rk d (.inl 0, p) 15).bind (fun u1 => (F_Jx35411_hasNext_aae02 X (.inl 0, p) d).bind (fun a1 => if a1 = 0 then A else ((dm_rk d (.inl 0, p) 15).bind (fun u2 => (F_Jx35411_next_0502b X (.inl 0, p) d).bind (fun a2 => (dm_ck a2.2 a2.1).bind (fun u3 => B a2))))))) = B ((.inl 0, f k), d') := by
  obtain ⟨d', h1, h2, h3⟩ := it_next (X := X) L I hk
  refine ⟨d', h2, h3, fun {β} {A} {B} => ?_⟩
  have I2 := I
  obtain ⟨lr, o⟩ := I
  have hg' : dAr d' (f k) 0 q g := ⟨by rw [h3.1]; exact hg.1, (h3.2.2 _ (Ne.symm hp)).trans hg.2⟩
  rw [rk_at o, Option.bind_some, it_has L I2 (Nat.le_of_lt hk), Option.bind_some, xI_0, if_bI0, if_pos hk, Option.bind_some, h1, Option.bind_some]
  show (dm_ck d' (.inl 0, f k)).bind _ = _
  rw [ck_at hg']
  rfl
theorem lik {i q : Nat} {g : Nat → Int32} (o : dAr d i 0 q g) (k : Nat) (hk : k < q) (hn : q < 2147483648) : dm_li X d (.inl 0, i) (iI (k : Int)) = some (g k) := by
  rw [li_at o (by rw [xI_ib (by omega) (by omega) hn]; trivial), iI_cl (by omega)]
theorem li0 {i q : Nat} {g : Nat → Int32} (o : dAr d i 0 q g) (hk : Nat.blt 0 q = true) (hn : Nat.blt q 2147483648 = true) : dm_li X d (.inl 0, i) (iI 0) = some (g 0) := lik o 0 (Nat.blt_eq.mp hk) (Nat.blt_eq.mp hn)
theorem li1 {i q : Nat} {g : Nat → Int32} (o : dAr d i 0 q g) (hk : Nat.blt 1 q = true) (hn : Nat.blt q 2147483648 = true) : dm_li X d (.inl 0, i) (iI 1) = some (g 1) := lik o 1 (Nat.blt_eq.mp hk) (Nat.blt_eq.mp hn)
theorem li2 {i q : Nat} {g : Nat → Int32} (o : dAr d i 0 q g) (hk : Nat.blt 2 q = true) (hn : Nat.blt q 2147483648 = true) : dm_li X d (.inl 0, i) (iI 2) = some (g 2) := lik o 2 (Nat.blt_eq.mp hk) (Nat.blt_eq.mp hn)
theorem li3 {i q : Nat} {g : Nat → Int32} (o : dAr d i 0 q g) (hk : Nat.blt 3 q = true) (hn : Nat.blt q 2147483648 = true) : dm_li X d (.inl 0, i) (iI 3) = some (g 3) := lik o 3 (Nat.blt_eq.mp hk) (Nat.blt_eq.mp hn)
theorem whole_lp (R : WR d w v tx N M E F) : ∀ (m k : Nat) (d1 : dm_D), k + m = v.1 0 → Ext c d d1 → d.1 ≤ p → ItS d1 p (N 1) k (M 1) → ∃ d2, F_X12_whole_12 X (iI (pv_tA v k)) (.inl 0, p) d1 = some (iI (pv_wT v), d2) ∧ Ext c d d2 := by
  intro m
  induction m with
  | zero =>
    intro k d1 hk E1 hp I
    obtain rfl : k = v.1 0 := by omega
    refine ⟨d1, ?_, E1⟩
    rw [E_X12_whole_12, it_end (R.arc.ext E1) I]
    rfl
  | succ m ih =>
    intro k d1 hk E1 hp I
    obtain ⟨g, a1, a2, a3, a4, a5⟩ := R.2.2.2.1 k (by omega)
    have hne : p ≠ F 1 k := by have := a1.1; omega
    obtain ⟨d', b1, b2, b3⟩ := it_go (X := X) (R.arc.ext E1) I (by omega) (E1.ar a1) hne
    have E2 := E1.it hp b2
    rw [E_X12_whole_12, b3]
    dsimp only
    rw [li1 (E2.ar a1) rfl rfl, Option.bind_some, a3, iI_m, iI_a]
    exact ih (k + 1) d' (by omega) E2 hp b1
theorem whole_ok (R : WR d w v tx N M E F) (hb : d.2.1 + 5 ≤ dm_L) : ∃ d', F_X12_whole X (.inl 0, w) d = some (iI (pv_wT v), d') ∧ Ext 5 d d' := by
  unfold F_X12_whole
  rw [fr_at R.1 rfl, Option.bind_some, rk_at R.arc.1, Option.bind_some, it_new R.arc hb, Option.bind_some]
  exact whole_lp R (v.1 0) 0 _ (by omega) Ext.nw (Nat.le_refl _) it_st
theorem min_J9 {a b : Int} (h1 : -2147483648 ≤ a) (h2 : a < 2147483648) (h3 : -2147483648 ≤ b) (h4 : b < 2147483648) : F_J9_min_7cf53 (iI a) (iI b) = some (iI (if a ≤ b then a else b)) := by
  unfold F_J9_min_7cf53
  by_cases h : a ≤ b
  · rw [if_neg (by rw [xI_lt h3 h4 h1 h2]; omega), if_pos h]
  · rw [if_pos (by rw [xI_lt h3 h4 h1 h2]; omega), if_neg h]
theorem ib1 {a n : Nat} (h : a < n) (hn : n < 2147483648) : ib (iI (a : Int)) n := by rw [xI_ib (by omega) (by omega) hn]; trivial
theorem parts_lp (hv : pv_ok v) {t : Int} (ht : 0 ≤ t ∧ t < 2147483648) (R : WR d w v tx N M E F) : ∀ (m k : Nat) (d1 : dm_D), k + m = v.1 0 → Ext c d d1 → d.1 ≤ p → ItS d1 p (N 1) k (M 1) → ∃ d2, F_X12_parts_15 X (iI (pv_pT v t k)) (iI (pv_lf v t k)) (.inl 0, p) d1 = some (iI (pv_pT v t (v.1 0)), d2) ∧ Ext c d d2 := by
  intro m
  induction m with
  | zero =>
    intro k d1 hk E1 hp I
    obtain rfl : k = v.1 0 := by omega
    refine ⟨d1, ?_, E1⟩
    rw [E_X12_parts_15, it_end (R.arc.ext E1) I]
  | succ m ih =>
    intro k d1 hk E1 hp I
    obtain ⟨g, a1, a2, a3, a4, a5⟩ := R.2.2.2.1 k (by omega)
    have hne : p ≠ F 1 k := by have := a1.1; omega
    obtain ⟨d', b1, b2, b3⟩ := it_go (X := X) (R.arc.ext E1) I (by omega) (E1.ar a1) hne
    have E2 := E1.it hp b2
    have hd := (hv.2.1 k (by omega)).2.2
    have h0 := pv_tA_b hv (n := k) (by omega)
    have hl : 0 ≤ pv_lf v t k ∧ pv_lf v t k < 2147483648 := by unfold pv_lf; split <;> omega
    rw [E_X12_parts_15, b3]
    dsimp only
    rw [li1 (E2.ar a1) rfl rfl, Option.bind_some, a3, iI_m, min_J9 (by omega) (by omega) (by omega) (by omega), Option.bind_some, pv_lf_m (by omega), li0 (E2.ar a1) rfl rfl, Option.bind_some, a2, iI_m, iI_a, iI_s, ← pv_lf_s (by omega), Int.mul_comm (pv_ps v t k)]
    exact ih (k + 1) d' (by omega) E2 hp b1
theorem parts_ok (hv : pv_ok v) {t : Int} (ht : 0 ≤ t ∧ t < 2147483648) (R : WR d w v tx N M E F) (hb : d.2.1 + 5 ≤ dm_L) : ∃ d', F_X12_parts X (.inl 0, w) (iI t) d = some (iI (pv_pT v t (v.1 0)), d') ∧ Ext 5 d d' := by
  unfold F_X12_parts
  rw [fr_at R.1 rfl, Option.bind_some, rk_at R.arc.1, Option.bind_some, it_new R.arc hb, Option.bind_some]
  have h := parts_lp (X := X) (c := 5) (p := d.1) hv ht R (v.1 0) 0 _ (by omega) Ext.nw (Nat.le_refl _) it_st
  rw [pv_lf_0 ht.1] at h
  exact h
theorem bend_lp (hv : pv_ok v) {t : Int} (ht : 0 ≤ t ∧ t < 2147483648) (R : WR d w v tx N M E F) : ∀ (m k : Nat) (d1 : dm_D), k + m = v.1 0 → Ext c d d1 → d.1 ≤ p → ItS d1 p (N 1) k (M 1) → ∃ d2, F_X12_bend_15 X (iI (pv_bT v t k)) (iI (pv_lf v t k)) (.inl 0, p) d1 = some (iI (pv_bT v t (v.1 0)), d2) ∧ Ext c d d2 := by
  intro m
  induction m with
  | zero =>
    intro k d1 hk E1 hp I
    obtain rfl : k = v.1 0 := by omega
    refine ⟨d1, ?_, E1⟩
    rw [E_X12_bend_15, it_end (R.arc.ext E1) I]
  | succ m ih =>
    intro k d1 hk E1 hp I
    obtain ⟨g, a1, a2, a3, a4, a5⟩ := R.2.2.2.1 k (by omega)
    have hne : p ≠ F 1 k := by have := a1.1; omega
    obtain ⟨d', b1, b2, b3⟩ := it_go (X := X) (R.arc.ext E1) I (by omega) (E1.ar a1) hne
    have E2 := E1.it hp b2
    have hd := (hv.2.1 k (by omega)).2.2
    have h0 := pv_tA_b hv (n := k) (by omega)
    have hl : 0 ≤ pv_lf v t k ∧ pv_lf v t k < 2147483648 := by unfold pv_lf; split <;> omega
    have h9 : pv_bT v t (k + 1) = pv_bT v t k + (if v.2 3 k = 0 then pv_ps v t k else - pv_ps v t k) := rfl
    have h8 := ih (k + 1) d' (by omega) E2 hp b1
    rw [h9] at h8
    rw [E_X12_bend_15, b3]
    dsimp only
    rw [li1 (E2.ar a1) rfl rfl, Option.bind_some, a3, iI_m, min_J9 (by omega) (by omega) (by omega) (by omega), Option.bind_some, pv_lf_m (by omega), li2 (E2.ar a1) rfl rfl, Option.bind_some, a4, iI_n, iI_a, iI_a, iI_s, ← pv_lf_s (by omega)]
    by_cases hr : v.2 3 k = 0
    · rw [if_neg (by rw [xI_eq (by omega) (by omega) (by omega) (by omega)]; omega)]
      rw [if_pos hr] at h8
      exact h8
    · rw [if_pos (by rw [xI_eq (by omega) (by omega) (by omega) (by omega)]; omega)]
      rw [if_neg hr] at h8
      exact h8
theorem bend_ok (hv : pv_ok v) {t : Int} (ht : 0 ≤ t ∧ t < 2147483648) (R : WR d w v tx N M E F) (hb : d.2.1 + 5 ≤ dm_L) : ∃ d', F_X12_bend X (.inl 0, w) (iI t) d = some (iI (pv_bT v t (v.1 0)), d') ∧ Ext 5 d d' := by
  unfold F_X12_bend
  rw [fr_at R.1 rfl, Option.bind_some, rk_at R.arc.1, Option.bind_some, it_new R.arc hb, Option.bind_some]
  have h := bend_lp (X := X) (c := 5) (p := d.1) hv ht R (v.1 0) 0 _ (by omega) Ext.nw (Nat.le_refl _) it_st
  rw [pv_lf_0 ht.1] at h
  exact h
end WRS
