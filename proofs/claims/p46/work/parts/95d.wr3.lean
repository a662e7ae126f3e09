section WRU
variable {X : dm_X} {d d1 d2 d' : dm_D} {w li p n k c m : Nat} {mc : Int32} {e : am_G × Nat} {f : Nat → Nat} {v : pv_T} {tx : am_v} {N : Nat → Nat} {M : Nat → Int32} {E : Nat → am_G × Nat} {F : Nat → Nat → Nat}
theorem engraved_lp (hv : pv_ok v) (R : WR d w v tx N M E F) : ∀ (m k : Nat) (d1 : dm_D), k + m = v.1 1 → Ext c d d1 → d.1 ≤ p → ItS d1 p (N 2) k (M 2) → ∃ d2, F_X12_engraved_12 X (iI (cN (fun j => decide (v.2 6 j = 1)) k)) (.inl 0, p) d1 = some (iI (cN (fun j => decide (v.2 6 j = 1)) (v.1 1)), d2) ∧ Ext c d d2 := by
  intro m
  induction m with
  | zero =>
    intro k d1 hk E1 hp I
    obtain rfl : k = v.1 1 := by omega
    refine ⟨d1, ?_, E1⟩
    rw [E_X12_engraved_12, it_end (R.let.ext E1) I]
  | succ m ih =>
    intro k d1 hk E1 hp I
    obtain ⟨g, a1, a2, a3, a4⟩ := R.2.2.2.2.1 k (by omega)
    have hne : p ≠ F 2 k := by have := a1.1; omega
    obtain ⟨d', b1, b2, b3⟩ := it_go (X := X) (R.let.ext E1) I (by omega) (E1.ar a1) hne
    have E2 := E1.it hp b2
    have h6 := hv.2.2.1 k (by omega)
    have h8 := ih (k + 1) d' (by omega) E2 hp b1
    rw [E_X12_engraved_12, b3]
    dsimp only
    rw [li1 (E2.ar a1) rfl rfl, Option.bind_some, a3, iI_a]
    by_cases h : v.2 6 k = 1
    · rw [cN_t (p := fun j => decide (v.2 6 j = 1)) (n := k) (decide_eq_true h)] at h8
      rw [h]
      exact h8
    · rw [cN_f (p := fun j => decide (v.2 6 j = 1)) (n := k) (decide_eq_false h)] at h8
      rw [show v.2 6 k = 0 by omega, Int.add_zero]
      exact h8
theorem engraved_ok (hv : pv_ok v) (R : WR d w v tx N M E F) (hb : d.2.1 + 5 ≤ dm_L) : ∃ d', F_X12_engraved X (.inl 0, w) d = some (iI (cN (fun j => decide (v.2 6 j = 1)) (v.1 1)), d') ∧ Ext 5 d d' := by
  unfold F_X12_engraved
  rw [fr_at R.1 rfl, Option.bind_some, rk_at R.let.1, Option.bind_some, it_new R.let hb, Option.bind_some]
  exact engraved_lp (c := 5) (p := d.1) hv R (v.1 1) 0 _ (by omega) Ext.nw (Nat.le_refl _) it_st
theorem scrOf_lp (hv : pv_ok v) {a : Nat} (ha : a < 1000) (R : WR d w v tx N M E F) : ∀ (m k : Nat) (d1 : dm_D), k + m = v.1 3 → Ext c d d1 → d.1 ≤ p → ItS d1 p (N 4) k (M 4) → ∃ d2, F_X12_scratchesOf_12 X (iI a) (iI (cN (fun j => decide (v.2 12 j = (a : Int))) k)) (.inl 0, p) d1 = some (iI (cN (fun j => decide (v.2 12 j = (a : Int))) (v.1 3)), d2) ∧ Ext c d d2 := by
  intro m
  induction m with
  | zero =>
    intro k d1 hk E1 hp I
    obtain rfl : k = v.1 3 := by omega
    refine ⟨d1, ?_, E1⟩
    rw [E_X12_scratchesOf_12, it_end (R.scr.ext E1) I]
  | succ m ih =>
    intro k d1 hk E1 hp I
    obtain ⟨g, a1, a2, a3⟩ := R.2.2.2.2.2.1 k (by omega)
    have hne : p ≠ F 4 k := by have := a1.1; omega
    obtain ⟨d', b1, b2, b3⟩ := it_go (X := X) (R.scr.ext E1) I (by omega) (E1.ar a1) hne
    have E2 := E1.it hp b2
    have h6 := hv.2.2.2.2.2.1 k (by omega)
    have h7 := hv.1.2.1
    have h8 := ih (k + 1) d' (by omega) E2 hp b1
    rw [E_X12_scratchesOf_12, b3]
    dsimp only
    rw [li0 (E2.ar a1) rfl rfl, Option.bind_some, a2, iI_a, iI_a]
    by_cases h : v.2 12 k = (a : Int)
    · rw [cN_t (p := fun j => decide (v.2 12 j = (a : Int))) (n := k) (decide_eq_true h)] at h8
      rw [h, if_pos rfl]
      exact h8
    · rw [cN_f (p := fun j => decide (v.2 12 j = (a : Int))) (n := k) (decide_eq_false h)] at h8
      rw [if_neg (by rw [xI_eq (by omega) (by omega) (by omega) (by omega)]; exact h), Int.add_zero]
      exact h8
theorem scrOf_ok (hv : pv_ok v) {a : Nat} (ha : a < 1000) (R : WR d w v tx N M E F) (hb : d.2.1 + 5 ≤ dm_L) : ∃ d', F_X12_scratchesOf X (.inl 0, w) (iI a) d = some (iI (cN (fun j => decide (v.2 12 j = (a : Int))) (v.1 3)), d') ∧ Ext 5 d d' := by
  unfold F_X12_scratchesOf
  rw [fr_at R.1 rfl, Option.bind_some, rk_at R.scr.1, Option.bind_some, it_new R.scr hb, Option.bind_some]
  exact scrOf_lp (c := 5) (p := d.1) hv ha R (v.1 3) 0 _ (by omega) Ext.nw (Nat.le_refl _) it_st
theorem isSp_ok (h0 : v.1 3 = 0) {x : Int32} (R : WR d w v tx N M E F) (hb : d.2.1 + 5 ≤ dm_L) : ∃ d', F_X12_isSpoiled X (.inl 0, w) x d = some (iI 0, d') ∧ Ext 5 d d' := by
  unfold F_X12_isSpoiled
  rw [fr_at R.1 rfl, Option.bind_some, rk_at R.scr.1, Option.bind_some, it_new R.scr hb, Option.bind_some]
  have L : LiE d (N 4) (M 4) (E 4) 0 (F 4) := by have := R.scr; rw [h0] at this; exact this
  refine ⟨dm_nw d 4 (.inl (15, [am_i (iI 0), am_i (iI (-1)), am_i (M 4), dm_o (N 4)])), ?_, Ext.nw⟩
  dsimp only
  rw [E_X12_isSpoiled_10, it_end (L.ext Ext.nw) it_st]
end WRU
/-! lists written -/
section LIW
variable {X : dm_X} {d d1 d2 d' : dm_D} {li p n k c m q : Nat} {mc : Int32} {e : am_G × Nat} {f : Nat → Nat}
theorem cr_at {r r2 cap cap2 : Nat} {g g2 : Nat → Option Nat} {a b z : Int} (o : dRr d r cap g) (o2 : dRr d r2 cap2 g2) (ha : 0 ≤ a ∧ a < 2147483648) (hb : 0 ≤ b ∧ b < 2147483648) (hz : 0 ≤ z ∧ z < 2147483648) (h1 : a.toNat + z.toNat ≤ cap) (h2 : b.toNat + z.toNat ≤ cap2) (h3 : ∀ i, i < z.toNat → ∀ k, g (a.toNat + i) = some k → ∃ m u, dAr d k 0 m u) : dm_cr d (.inl 0, r) (iI a) (.inl 0, r2) (iI b) (iI z) = some (dm_se d r2 (.inr (.inr (.inl (cap2, va_cpy g g2 a.toNat b.toNat z.toNat))))) := by
  unfold dm_cr
  rw [dm_rr_of o.1 o.2, Option.bind_some, dm_rr_of o2.1 o2.2, Option.bind_some, iI_clz ha.1 ha.2, iI_clz hb.1 hb.2, iI_clz hz.1 hz.2]
  exact if_pos ⟨⟨by rw [xI_0, xI_lt (by omega) (by omega) (by omega) (by omega)]; omega, by rw [xI_0, xI_lt (by omega) (by omega) (by omega) (by omega)]; omega, by rw [xI_0, xI_lt (by omega) (by omega) (by omega) (by omega)]; omega⟩, ⟨h1, h2⟩, fun i hi k hk => by
    obtain ⟨m, u, h4⟩ := h3 i hi k hk
    exact ⟨m, u, dm_ar_of h4.1 h4.2⟩⟩
theorem shr1 {n : Nat} (h : n < 1000) : iI (n : Int) >>> (iI 1 &&& 31) = iI ((n / 2 : Nat) : Int) := by
  have : ∀ n : Fin 1000, iI ((n : Nat) : Int) >>> (iI 1 &&& 31) = iI (((n : Nat) / 2 : Nat) : Int) := by decide +kernel
  exact this ⟨n, h⟩
theorem max_J9 {a b : Int} (h1 : -2147483648 ≤ a) (h2 : a < 2147483648) (h3 : -2147483648 ≤ b) (h4 : b < 2147483648) : F_J9_max_7cf53 (iI a) (iI b) = some (iI (if a < b then b else a)) := by
  unfold F_J9_max_7cf53
  by_cases h : a < b
  · rw [if_pos (by rw [xI_lt h1 h2 h3 h4]; exact h), if_pos h]
  · rw [if_neg (by rw [xI_lt h1 h2 h3 h4]; exact h), if_neg h]
/-- growing: a new row with the same elements -/
theorem grow_at (L : LiE d li mc e n f) (hn : n < 1000) (hfull : ∀ r cap g, e = (.inl 0, r) → dRr d r cap g → cap = n) (hel : ∀ i, i < n → ∃ m u, dAr d (f i) 0 m u) (hb : d.2.1 + (2 * n + 12) ≤ dm_L) : ∃ (cap : Nat) (g : Nat → Option Nat), F_Jx4a65c_grow_d5877 X (.inl 0, li) d = some ((.inl 0, d.1), dm_se (dm_nw d cap (.inr (.inr (.inl (cap, g))))) li (.inl (16, [am_i mc, dm_o d.1, am_i (iI n)]))) ∧ n < cap ∧ cap ≤ 2 * n + 10 ∧ ∀ i, i < n → g i = some (f i) := by
  have hli := L.1.1
  unfold F_Jx4a65c_grow_d5877 F_Jx4a65c_grow_92f84
  rw [fi_at L.1 rfl, Option.bind_some, rk_at L.1, Option.bind_some, fr_at L.1 rfl, Option.bind_some]
  rcases L.2.2 with ⟨r, cap, g, rfl, h2, h3, h4, h5⟩ | ⟨rfl, rfl⟩
  · obtain rfl := hfull r cap g rfl h2
    obtain ⟨nc, hnc⟩ : ∃ nc : Nat, nc = cap + (if 1 < cap / 2 then cap / 2 else 1) := ⟨_, rfl⟩
    have hnc1 : cap < nc ∧ nc ≤ 2 * cap + 1 := by rw [hnc]; split <;> omega
    have hgr : F_Jx4a65c_grow_92f84_20 X (.inl 0, li) (iI (cap : Int) + iI 1) (iI cap) d = some ((.inl 0, d.1), dm_se (dm_nw d nc (.inr (.inr (.inl (nc, va_cpy g (fun _ => none) 0 0 cap))))) li (.inl (16, [am_i mc, dm_o d.1, am_i (iI cap)]))) := by
      unfold F_Jx4a65c_grow_92f84_20 F_J8_newLength_cabcc F_J7_copyOf_1904c F_J7_copyOf_6403c
      have e1 : (if (1 : Int) < ((cap / 2 : Nat) : Int) then ((cap / 2 : Nat) : Int) else 1) = ((nc - cap : Nat) : Int) := by
        rw [hnc]
        split <;> split <;> omega
      rw [iI_a, iI_s, show (cap : Int) + 1 - cap = 1 by omega, shr1 hn, max_J9 (by omega) (by omega) (by omega) (by omega), Option.bind_some, e1, iI_a, show (cap : Int) + ((nc - cap : Nat) : Int) = nc by omega, if_neg (by rw [xI_le (by omega) (by omega) (by omega) (by omega)]; omega), show (2147483639 : Int32) = iI 2147483639 from rfl, if_neg (by rw [xI_lt (by omega) (by omega) (by omega) (by omega)]; omega), Option.bind_some, fr_at L.1 rfl, Option.bind_some]
      have h6 : dm_rg d (.inl 0, r) = some () := by
        unfold dm_rg
        rw [dm_rr_of h2.1 h2.2]
        rfl
      rw [h6, Option.bind_some, nr_at (z := nc) (by omega) (by omega) (by rw [Int.toNat_natCast]; omega), Option.bind_some, Int.toNat_natCast, ln_rr (Ext.nw.rr h2), Option.bind_some, ofN, min_J9 (by omega) (by omega) (by omega) (by omega), Option.bind_some, if_pos (by omega), cr_at (a := 0) (b := 0) (z := cap) (Ext.nw.rr h2) dRr.nw (by omega) (by omega) (by omega) (by simp) (by simp; omega) (fun i hi k hk => by
        have hi : i < cap := by simpa using hi
        have hk : g i = some k := by simpa using hk
        rw [h5 i hi] at hk
        cases hk
        obtain ⟨m, u, h7⟩ := hel i hi
        exact ⟨m, u, Ext.nw.ar h7⟩), nw_se, Option.bind_some, Option.bind_some, Option.bind_some, pu_at (Ext.nw.ob L.1) (ble rfl), Option.bind_some]
      rfl
    refine ⟨nc, va_cpy g (fun _ => none) 0 0 cap, ?_, hnc1.1, by omega, fun i hi => ?_⟩
    · rw [ln_rr h2, Option.bind_some, ofN]
      by_cases h0 : 0 < cap
      · rw [xI_0, if_pos (by rw [xI_lt (by omega) (by omega) (by omega) (by omega)]; omega), hgr]
        rfl
      · rw [xI_0, if_neg (by rw [xI_lt (by omega) (by omega) (by omega) (by omega)]; omega), Option.bind_some, if_pos (by rfl), if_neg (by simp), hgr]
        rfl
    · show (if 0 ≤ i ∧ i < 0 + cap then g (0 + (i - 0)) else none) = _
      rw [if_pos (by omega), show 0 + (i - 0) = i by omega]
      exact h5 i hi
  · refine ⟨10, fun _ => none, ?_, by omega, by omega, fun i hi => absurd hi (Nat.not_lt_zero i)⟩
    rw [ln_z, Option.bind_some, if_neg (by decide), Option.bind_some, if_pos (by rfl), if_pos rfl]
    unfold F_J9_max_7cf53
    rw [if_neg (by decide), Option.bind_some, nr_at (z := 10) (by omega) (by omega) (by show d.2.1 + 10 + 1 ≤ dm_L; omega), Option.bind_some, pu_at (Ext.nw.ob L.1) (ble rfl), Option.bind_some]
    rfl
end LIW
