theorem num8 {a c m L : Nat} (h1 : a + 432 * (m + 1) ≤ L) (h3 : c ≤ a + 432) : a + 432 ≤ L ∧ c + 432 * m ≤ L ∧ a + 432 * m ≤ L ∧ 432 + 432 * m ≤ 432 * (m + 1) ∧ 432 * m ≤ 432 * (m + 1) := by omega
section ENL
variable {X : dm_X} {d d1 d2 d' : dm_D} {w li p n k c m q : Nat} {v v' : pv_T} {tx : am_v} {N : Nat → Nat} {M : Nat → Int32} {E : Nat → am_G × Nat} {F : Nat → Nat → Nat} {u u' : Nat → Int32}
theorem engA_lp (hv : pv_ok v) : ∀ (m k : Nat) (d : dm_D) (M : Nat → Int32) (E : Nat → am_G × Nat) (F : Nat → Nat → Nat), k + m = v.1 1 → WR d w (enA 40 v k).2 tx N M E F → d.2.1 + 432 * m ≤ dm_L → ∃ d' M E F, F_X12_engraveAll_4 X (.inl 0, w) (iI 40) (iI (enA 40 v k).1) (iI k) d = some (iI (enA 40 v (v.1 1)).1, d') ∧ WR d' w (enA 40 v (v.1 1)).2 tx N M E F ∧ Hol (432 * m) d d' := by
  have hk20 := hv.1.2.1
  intro m
  induction m with
  | zero =>
    intro k d M E F hk R hb
    obtain rfl : k = v.1 1 := by omega
    have s := enA_S (lim := 40) (v := v) (v.1 1)
    refine ⟨d, M, E, F, ?_, R, Hol.rf⟩
    rw [E_X12_engraveAll_4, fr_at R.1 rfl, Option.bind_some, rk_at R.let.1, Option.bind_some, size_at R.let, Option.bind_some, s.2.1, if_pos (Int32.le_refl _)]
  | succ m ih =>
    intro k d M E F hk R hb
    have s := enA_S (lim := 40) (v := v) k
    have hW := enA_W (lim := 40) (pvW_of hv) k (by omega)
    have h44 := enA_44 (v := v) hv.1.2.2.2 k
    have hv' : pv_ok (enA 40 v k).2 := hW.ok h44
    have hk' : k < (enA 40 v k).2.1 1 := by rw [s.2.1]; omega
    have h6 := hv'.2.2.1 k hk'
    obtain ⟨g, a1, a2, a3, a4⟩ := R.2.2.2.2.1 k hk'
    have e0 : F_X12_engraveAll_4 X (.inl 0, w) (iI 40) (iI (enA 40 v k).1) (iI k) d = (if iI ((enA 40 v k).2.2 6 k) = iI 1 then F_X12_engraveAll_4 X (.inl 0, w) (iI 40) (iI (enA 40 v k).1) (iI k + 1) d else (if iI ((enA 40 v k).2.1 3) ≤ iI 40 then ((F_X12_engrave X (.inl 0, w) (iI k) d).bind (fun a5 => F_X12_engraveAll_4 X (.inl 0, w) (iI 40) (iI (enA 40 v k).1 + 1) (iI k + 1) a5.2)) else F_X12_engraveAll_4 X (.inl 0, w) (iI 40) (iI (enA 40 v k).1) (iI k + 1) d)) := by
      rw [E_X12_engraveAll_4, fr_at R.1 rfl, Option.bind_some, rk_at R.let.1, Option.bind_some, size_at R.let, Option.bind_some, s.2.1, if_neg (by rw [xI_le (by omega) (by omega) (by omega) (by omega)]; omega), Option.bind_some, rk_at R.let.1, Option.bind_some, get_at R.let hk', Option.bind_some, ck_at a1, Option.bind_some, li1 a1 rfl rfl, Option.bind_some, a3, fr_at R.1 rfl, Option.bind_some, rk_at R.scr.1, Option.bind_some, size_at R.scr, Option.bind_some, rk_at R.1, Option.bind_some]
    rw [e0]
    by_cases c : (enA 40 v k).2.2 6 k = 0 ∧ (enA 40 v k).2.1 3 ≤ 40
    · have eT := enA_t c
      obtain ⟨d1, M1, E1, F1, q1, R1, H1⟩ := engrave_ok (X := X) hv' hk' c.2 R (num8 hb (Nat.le_add_right _ _)).1
      have hn := num8 hb H1.2.1
      have R1' : WR d1 w (enA 40 v (k + 1)).2 tx N M1 E1 F1 := by rw [eT]; exact R1
      obtain ⟨d2, M2, E2, F2, q2, R2, H2⟩ := ih (k + 1) d1 M1 E1 F1 (by omega) R1' hn.2.1
      refine ⟨d2, M2, E2, F2, ?_, R2, (H1.tr H2).le hn.2.2.2.1⟩
      rw [if_neg (by rw [xI_eq (by omega) (by omega) (by omega) (by omega)]; omega), if_pos (by rw [xI_le (by omega) (by omega) (by omega) (by omega)]; omega), q1, Option.bind_some]
      dsimp only
      rw [iI_1, iI_1]
      rw [eT] at q2
      exact q2
    · have eF := enA_f c
      have hn := num8 hb (Nat.le_add_right d.2.1 432)
      have R1' : WR d w (enA 40 v (k + 1)).2 tx N M E F := by rw [eF]; exact R
      obtain ⟨d2, M2, E2, F2, q2, R2, H2⟩ := ih (k + 1) d M E F (by omega) R1' hn.2.2.1
      refine ⟨d2, M2, E2, F2, ?_, R2, H2.le hn.2.2.2.2⟩
      rw [eF] at q2
      rw [iI_1]
      by_cases c1 : (enA 40 v k).2.2 6 k = 1
      · rw [if_pos (by rw [c1])]
        exact q2
      · rw [if_neg (by rw [xI_eq (by omega) (by omega) (by omega) (by omega)]; omega), if_neg (by rw [xI_le (by omega) (by omega) (by omega) (by omega)]; omega)]
        exact q2
theorem engA_ok (hv : pv_ok v) (R : WR d w v tx N M E F) (hb : d.2.1 + 8640 ≤ dm_L) : ∃ d' M E F, F_X12_engraveAll X (.inl 0, w) (iI 40) d = some (iI (enA 40 v (v.1 1)).1, d') ∧ WR d' w (enA 40 v (v.1 1)).2 tx N M E F ∧ Hol 8640 d d' := by
  have h20 : 432 * v.1 1 ≤ 8640 := Nat.mul_le_mul_left 432 hv.1.2.1
  obtain ⟨d1, M1, E1, F1, q1, R1, H1⟩ := engA_lp (X := X) hv (v.1 1) 0 d M E F (Nat.zero_add _) R (Nat.le_trans (Nat.add_le_add_left h20 _) hb)
  exact ⟨d1, M1, E1, F1, q1, R1, H1.le h20⟩
end ENL
