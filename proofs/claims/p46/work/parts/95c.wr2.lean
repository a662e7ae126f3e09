section WRT
variable {X : dm_X} {d d1 d2 d' : dm_D} {w li p n k c m : Nat} {mc : Int32} {e : am_G × Nat} {f : Nat → Nat} {v : pv_T} {tx : am_v} {N : Nat → Nat} {M : Nat → Int32} {E : Nat → am_G × Nat} {F : Nat → Nat → Nat}
theorem arc68 (R : WR d w v tx N M E F) {x : Int32} : F_X12_arcAt_68 X (.inl 0, w) x d = some (if v.1 0 = 0 then iI (-1) else x) := by
  rw [E_X12_arcAt_68, fr_at R.1 rfl, Option.bind_some, rk_at R.arc.1, Option.bind_some, empty_at R.arc, Option.bind_some, xI_0, if_bI0]
  by_cases h : v.1 0 = 0
  · rw [if_pos h, if_pos h]
  · rw [if_neg h, if_neg h]
theorem arcAt_lp (hv : pv_ok v) {t : Int} (ht : 0 ≤ t ∧ t < 2147483648) (R : WR d w v tx N M E F) {a : Nat} (ha : a < v.1 0) (h1 : ∀ i, i < a → pv_tA v (i + 1) ≤ t) (h2 : t < pv_tA v (a + 1) ∨ a + 1 = v.1 0) : ∀ (m k : Nat), k + m = a → F_X12_arcAt_4 X (.inl 0, w) (iI k) (iI (t - pv_tA v k)) d = some (iI a) := by
  have hn := R.arc.2.1
  intro m
  induction m with
  | zero =>
    intro k hk
    obtain rfl : k = a := by omega
    obtain ⟨g, a1, a2, a3, a4, a5⟩ := R.2.2.2.1 k ha
    have hd := (hv.2.1 k ha).2.2
    have h0 := pv_tA_b hv (n := k) (by omega)
    have h5 : pv_tA v (k + 1) = pv_tA v k + 10 * v.2 2 k := rfl
    rw [E_X12_arcAt_4, fr_at R.1 rfl, Option.bind_some, rk_at R.arc.1, Option.bind_some, size_at R.arc, Option.bind_some, iI_s]
    by_cases h : k + 1 = v.1 0
    · rw [if_pos (by rw [xI_le (by omega) (by omega) (by omega) (by omega)]; omega), arc68 R, if_neg (by omega)]
    · rw [if_neg (by rw [xI_le (by omega) (by omega) (by omega) (by omega)]; omega), Option.bind_some, rk_at R.arc.1, Option.bind_some, get_at R.arc ha, Option.bind_some, ck_at a1, Option.bind_some, li1 a1 rfl rfl, Option.bind_some, a3, iI_m, if_pos (by rw [xI_lt (by omega) (by omega) (by omega) (by omega)]; omega), arc68 R, if_neg (by omega)]
  | succ m ih =>
    intro k hk
    obtain ⟨g, a1, a2, a3, a4, a5⟩ := R.2.2.2.1 k (by omega)
    have hd := (hv.2.1 k (by omega)).2.2
    have h0 := pv_tA_b hv (n := k) (by omega)
    have h5 : pv_tA v (k + 1) = pv_tA v k + 10 * v.2 2 k := rfl
    have h6 := h1 k (by omega)
    have h7 := ih (k + 1) (by omega)
    rw [h5, show t - (pv_tA v k + 10 * v.2 2 k) = t - pv_tA v k - 10 * v.2 2 k by omega] at h7
    rw [E_X12_arcAt_4, fr_at R.1 rfl, Option.bind_some, rk_at R.arc.1, Option.bind_some, size_at R.arc, Option.bind_some, iI_s, if_neg (by rw [xI_le (by omega) (by omega) (by omega) (by omega)]; omega), Option.bind_some, rk_at R.arc.1, Option.bind_some, get_at R.arc (by omega), Option.bind_some, ck_at a1, Option.bind_some, li1 a1 rfl rfl, Option.bind_some, a3, iI_m, if_neg (by rw [xI_lt (by omega) (by omega) (by omega) (by omega)]; omega), Option.bind_some, rk_at R.arc.1, Option.bind_some, get_at R.arc (by omega), Option.bind_some, ck_at a1, Option.bind_some, li1 a1 rfl rfl, Option.bind_some, a3, iI_m, iI_s, iI_1]
    exact h7
theorem arcAt_ok (hv : pv_ok v) {t : Int} (ht : 0 ≤ t ∧ t < 2147483648) (R : WR d w v tx N M E F) : F_X12_arcAt X (.inl 0, w) (iI t) d = some (iI (pv_ar v t)) := by
  have hn := R.arc.2.1
  unfold F_X12_arcAt
  by_cases h : v.1 0 = 0
  · rw [E_X12_arcAt_4, fr_at R.1 rfl, Option.bind_some, rk_at R.arc.1, Option.bind_some, size_at R.arc, Option.bind_some, iI_s, if_pos (by rw [xI_le (by omega) (by omega) (by omega) (by omega)]; omega), arc68 R, if_pos h]
    have h2 := pv_ar_b v t
    rw [show pv_ar v t = -1 by omega]
  · obtain ⟨a, h1, h2, h3, h4, h5⟩ := pv_ar_at (v := v) ht.1 (by omega)
    have h6 := arcAt_lp (X := X) hv ht R h2 h5 h4 a 0 (by omega)
    rw [h1]
    rw [show pv_tA v 0 = 0 from rfl, Int.sub_zero] at h6
    exact h6
theorem centre_ok (hv : pv_ok v) (hk : k < v.1 1) (R : WR d w v tx N M E F) (hb : d.2.1 + 5 ≤ dm_L) : ∃ d', F_X12_centre X (.inl 0, w) (iI k) d = some (iI (pv_ct v k), d') ∧ Ext 5 d d' := by
  obtain ⟨d1, h1, E1⟩ := whole_ok (X := X) R hb
  have R1 := R.ext E1
  have h2 := pv_ct_b hv hk
  have h3 := hv.1.2.1
  refine ⟨d1, ?_, E1⟩
  unfold F_X12_centre
  rw [rk_at R.1, Option.bind_some, h1, Option.bind_some]
  dsimp only
  rw [fr_at R1.1 rfl, Option.bind_some, rk_at R1.let.1, Option.bind_some, size_at R1.let, Option.bind_some, iI_m, xI_0, if_neg (by rw [xI_eq (by omega) (by omega) (by omega) (by omega)]; omega), iI_m, iI_a, iI_m, xI_dn (by omega) (by omega) (by omega) (by omega)]
  rfl
theorem hard_ok (hv : pv_ok v) (hk : k < v.1 1) (R : WR d w v tx N M E F) (hb : d.2.1 + 5 ≤ dm_L) : ∃ d', F_X12_hard X (.inl 0, w) (iI k) d = some (iI (pv_hd v (pv_ct v k)), d') ∧ Ext 5 d d' := by
  have h2 := pv_ct_b hv hk
  have hw := pv_tA_b hv (Nat.le_refl (v.1 0))
  have hw2 : pv_wT v = pv_tA v (v.1 0) := rfl
  have hb2 := pv_ar_b v (pv_ct v k)
  by_cases h : v.1 0 = 0
  · refine ⟨d, ?_, Ext.rf.le (Nat.zero_le _)⟩
    unfold F_X12_hard
    rw [fr_at R.1 rfl, Option.bind_some, rk_at R.arc.1, Option.bind_some, empty_at R.arc, Option.bind_some, xI_0, if_bI0, if_pos h]
    unfold pv_hd
    rw [if_neg (by omega)]
  · obtain ⟨d1, h1, E1⟩ := centre_ok (X := X) hv hk R hb
    have R1 := R.ext E1
    obtain ⟨a, q1, q2, -⟩ := pv_ar_at (v := v) h2.1 (by omega)
    obtain ⟨g, a1, a2, a3, a4, a5⟩ := R1.2.2.2.1 a q2
    refine ⟨d1, ?_, E1⟩
    unfold F_X12_hard
    rw [fr_at R.1 rfl, Option.bind_some, rk_at R.arc.1, Option.bind_some, empty_at R.arc, Option.bind_some, xI_0, if_bI0, if_neg h, Option.bind_some, rk_at R.1, Option.bind_some, h1, Option.bind_some]
    dsimp only
    rw [rk_at R1.1, Option.bind_some, arcAt_ok hv ⟨h2.1, by omega⟩ R1, Option.bind_some, rk_at R1.arc.1, Option.bind_some, q1, get_at R1.arc q2, Option.bind_some, ck_at a1, Option.bind_some, li3 a1 rfl rfl, Option.bind_some, a5]
    unfold pv_hd
    rw [q1, if_pos (by omega), Int.toNat_natCast]
theorem edge_ok (hv : pv_ok v) (hk : k < v.1 1) {x : Int} (R : WR d w v tx N M E F) (hb : d.2.1 + 10 ≤ dm_L) : ∃ d', F_X12_edge X (.inl 0, w) (iI k) (iI x) d = some (iI (pv_cp v k + x * 500 * pv_w v k), d') ∧ Ext 10 d d' := by
  obtain ⟨d1, h1, E1⟩ := centre_ok (X := X) hv hk R (by omega)
  have R1 := R.ext E1
  have h2 := pv_ct_b hv hk
  have hw := pv_tA_b hv (Nat.le_refl (v.1 0))
  have hw2 : pv_wT v = pv_tA v (v.1 0) := rfl
  obtain ⟨d2, h3, E2⟩ := parts_ok (X := X) (t := pv_ct v k) hv ⟨h2.1, by omega⟩ R1 (by have := E1.2.1; omega)
  have R2 := R1.ext E2
  obtain ⟨g, a1, a2, a3, a4⟩ := R2.2.2.2.2.1 k hk
  obtain ⟨f, b1, b2⟩ := R2.2.1
  have h5 := hv.2.2.1 k hk
  refine ⟨d2, ?_, E1.tr E2⟩
  unfold F_X12_edge
  rw [rk_at R.1, Option.bind_some, h1, Option.bind_some]
  dsimp only
  rw [rk_at R1.1, Option.bind_some, h3, Option.bind_some]
  dsimp only
  rw [fr_at R2.1 rfl, Option.bind_some, fr_at R2.1 rfl, Option.bind_some, rk_at R2.let.1, Option.bind_some, get_at R2.let hk, Option.bind_some, ck_at a1, Option.bind_some, li0 a1 rfl rfl, Option.bind_some, a2, li_at b1 (by rw [xI_ib (by omega) (by omega) (by omega)]; trivial), Option.bind_some, xI_cl (by omega) (by omega), b2 _ (by omega), iI_m, iI_m, iI_a]
  rfl
theorem pT_wT (hv : pv_ok v) : pv_pT v (pv_wT v) (v.1 0) = pv_wP v := by
  refine sI_c (fun i hi => ?_)
  have h1 : pv_tA v (i + 1) ≤ pv_tA v (v.1 0) := sI_mono (by omega) (fun j hj => by have := hv.2.1 j hj; omega)
  have h2 := (hv.2.1 i hi).2.2
  have h3 : pv_tA v (i + 1) = pv_tA v i + 10 * v.2 2 i := rfl
  have h4 : pv_ps v (pv_wT v) i = 10 * v.2 2 i := by
    unfold pv_ps pv_wT
    rw [if_neg (by omega)]
    split <;> omega
  rw [h4]
theorem room30_ok (hv : pv_ok v) (hk : k ≤ v.1 1) {y : Int} (R : WR d w v tx N M E F) (hb : d.2.1 + 10 ≤ dm_L) : ∃ d', F_X12_room_30 X (.inl 0, w) (iI k) (iI y) d = some (iI (y - pv_fr v k), d') ∧ Ext 10 d d' := by
  have hn := R.let.2.1
  unfold F_X12_room_30
  cases k with
  | zero =>
    refine ⟨d, ?_, Ext.rf.le (Nat.zero_le _)⟩
    rw [if_pos (show iI ((0 : Nat) : Int) = 0 from rfl), iI_s]
    rfl
  | succ k =>
    obtain ⟨d1, h1, E1⟩ := edge_ok (X := X) (x := 1) hv (k := k) (by omega) R hb
    refine ⟨d1, ?_, E1⟩
    rw [xI_0, if_neg (by rw [xI_eq (by omega) (by omega) (by omega) (by omega)]; omega), rk_at R.1, Option.bind_some, iI_s, show ((k + 1 : Nat) : Int) - 1 = k by omega, h1, Option.bind_some]
    dsimp only
    rw [iI_s]
    show some (iI (y - (pv_cp v k + 1 * 500 * pv_w v k)), d1) = some (iI (y - pv_re v k), d1)
    unfold pv_re
    rw [show (1 : Int) * 500 = 500 from rfl]
theorem room_ok (hv : pv_ok v) (hk : k ≤ v.1 1) (R : WR d w v tx N M E F) (hb : d.2.1 + 20 ≤ dm_L) : ∃ d', F_X12_room X (.inl 0, w) (iI k) d = some (iI (pv_rm v k), d') ∧ Ext 20 d d' := by
  have hn := R.let.2.1
  have hw := pv_tA_b hv (Nat.le_refl (v.1 0))
  have hw2 : pv_wT v = pv_tA v (v.1 0) := rfl
  unfold F_X12_room
  rw [fr_at R.1 rfl, Option.bind_some, rk_at R.let.1, Option.bind_some, size_at R.let, Option.bind_some]
  by_cases h : k = v.1 1
  · obtain ⟨d1, h1, E1⟩ := whole_ok (X := X) R (by omega)
    have R1 := R.ext E1
    obtain ⟨d2, h2, E2⟩ := parts_ok (X := X) (t := pv_wT v) hv ⟨by omega, by omega⟩ R1 (by have := E1.2.1; omega)
    have R2 := R1.ext E2
    obtain ⟨d3, h3, E3⟩ := room30_ok (X := X) (y := pv_wP v) hv hk R2 (by have := E1.2.1; have := E2.2.1; omega)
    refine ⟨d3, ?_, ((E1.tr E2).tr E3).le (by omega)⟩
    rw [if_pos (by rw [h]), rk_at R.1, Option.bind_some, h1, Option.bind_some]
    dsimp only
    rw [rk_at R1.1, Option.bind_some, h2, Option.bind_some]
    dsimp only
    rw [pT_wT hv, h3]
    unfold pv_rm
    rw [if_neg (by omega)]
  · obtain ⟨d1, h1, E1⟩ := edge_ok (X := X) (x := -1) hv (k := k) (by omega) R (by omega)
    have R1 := R.ext E1
    obtain ⟨d3, h3, E3⟩ := room30_ok (X := X) (y := pv_le v k) hv hk R1 (by have := E1.2.1; omega)
    refine ⟨d3, ?_, (E1.tr E3).le (by omega)⟩
    rw [if_neg (by rw [xI_eq (by omega) (by omega) (by omega) (by omega)]; omega), rk_at R.1, Option.bind_some, h1, Option.bind_some]
    dsimp only
    rw [show pv_cp v k + -1 * 500 * pv_w v k = pv_le v k by unfold pv_le; omega, h3]
    unfold pv_rm
    rw [if_pos (by omega)]
theorem spoils_ok (hv : pv_ok v) {s : Nat} (hs : s < v.1 3) (R : WR d w v tx N M E F) (hb : d.2.1 + 20 ≤ dm_L) : ∃ d', F_X12_spoils X (.inl 0, w) (.inl 0, F 4 s) d = some (iI (pv_sb v s), d') ∧ Ext 20 d d' := by
  have hn := hv.1.2.1
  obtain ⟨g, a1, a2, a3⟩ := R.2.2.2.2.2.1 s hs
  have h1 := hv.2.2.2.2.2.1 s hs
  unfold F_X12_spoils
  rw [li0 a1 rfl rfl, Option.bind_some, a2, fr_at R.1 rfl, Option.bind_some, rk_at R.let.1, Option.bind_some, size_at R.let, Option.bind_some, iI_a]
  unfold pv_sb
  by_cases h : (v.1 1 : Int) ≤ v.2 12 s + 1
  · refine ⟨d, ?_, Ext.rf.le (Nat.zero_le _)⟩
    rw [if_pos (by rw [xI_le (by omega) (by omega) (by omega) (by omega)]; omega), if_neg (by omega)]
  · have e1 : v.2 12 s + 1 = (((v.2 12 s + 1).toNat : Nat) : Int) := by omega
    obtain ⟨d1, h2, E1⟩ := room_ok (X := X) (k := (v.2 12 s + 1).toNat) hv (by omega) R hb
    have h3 := pv_rm_b hv (i := (v.2 12 s + 1).toNat) (by omega)
    refine ⟨d1, ?_, E1⟩
    rw [if_neg (by rw [xI_le (by omega) (by omega) (by omega) (by omega)]; omega), li1 a1 rfl rfl, Option.bind_some, a3, Option.bind_some, rk_at R.1, Option.bind_some]
    rw [← e1] at h2
    rw [iI_a, h2, Option.bind_some]
    dsimp only
    by_cases h4 : v.2 13 s ≤ pv_rm v (v.2 12 s + 1).toNat
    · rw [if_pos (by rw [xI_le (by omega) (by omega) (by omega) (by omega)]; omega), if_neg (by omega)]
    · rw [if_neg (by rw [xI_le (by omega) (by omega) (by omega) (by omega)]; omega), if_pos (by omega), li0 (E1.ar a1) rfl rfl, Option.bind_some, a2, iI_a]
end WRT
