theorem num7 {a b c m L : Nat} (h1 : a + 108 * (m + 1) ≤ L) (h2 : b ≤ 44) (h3 : c ≤ a + (2 * b + 20)) : a + (2 * b + 20) ≤ L ∧ c + 108 * m ≤ L ∧ (2 * b + 20) + 108 * m ≤ 108 * (m + 1) := by omega
section ENK
variable {X : dm_X} {d d1 d2 d' : dm_D} {w li p n k c m q : Nat} {v v' : pv_T} {tx : am_v} {N : Nat → Nat} {M : Nat → Int32} {E : Nat → am_G × Nat} {F : Nat → Nat → Nat} {u u' : Nat → Int32}
theorem nst_c (hv : pv_ok v) (hk : k < v.1 1) : ((nst v k : Nat) : Int) = 1 + v.2 5 k % 4 ∧ nst v k ≤ 4 := by
  have h5 := hv.2.2.1 k hk
  unfold nst
  omega
theorem engrave_lp (hv : pv_ok v) (hk : k < v.1 1) (hn : v.1 3 ≤ 40) : ∀ (m i : Nat) (d : dm_D) (x2 : Int) (M : Nat → Int32) (E : Nat → am_G × Nat) (F : Nat → Nat → Nat), i + m = nst v k → WR d w (itP i v k) tx N M E F → d.2.1 + 108 * m ≤ dm_L → ∃ d' M E F, F_X12_engrave_4 X (.inl 0, w) (iI k) (iI x2) (iI i) d = some (iI (x2 + (((engL v k).1 3 : Int) - (itP i v k).1 3)), d') ∧ WR d' w (engL v k) tx N M E F ∧ Hol (108 * m) d d' := by
  have hst := nst_c hv hk
  have hk20 := hv.1.2.1
  intro m
  induction m with
  | zero =>
    intro i d x2 M E F hi R hb
    obtain rfl : i = nst v k := by omega
    have s := itP_S (v := v) (j := k) (nst v k)
    have hk' : k < (itP (nst v k) v k).1 1 := by rw [s.2.1]; exact hk
    have e5 : (itP (nst v k) v k).2 5 = v.2 5 := s.2.2.2.1 5 (by omega) (by omega) (by omega) (by omega)
    have h5 := hv.2.2.1 k hk
    obtain ⟨g, a1, a2, a3, a4⟩ := R.2.2.2.2.1 k hk'
    have a2' : g 0 = iI (v.2 5 k) := by rw [a2, e5]
    refine ⟨_, M, E, F, ?_, R.let1 (x := 1) hk' a1 ⟨a2, a4⟩, (Hol.ar a1).le (Nat.zero_le _)⟩
    rw [E_X12_engrave_4, fr_at R.1 rfl, Option.bind_some, rk_at R.let.1, Option.bind_some, get_at R.let hk', Option.bind_some, ck_at a1, Option.bind_some, li0 a1 rfl rfl, Option.bind_some, a2', if_neg (by decide), xI_rn (by omega) (by omega) (by omega) (by omega), if_pos (by rw [xI_lt (by omega) (by omega) (by omega) (by omega)]; omega), Option.bind_some, rk_at R.let.1, Option.bind_some, get_at R.let hk', Option.bind_some, ck_at a1, Option.bind_some, wi1 a1 rfl rfl, Option.bind_some]
    have e6 : ((engL v k).1 3 : Int) - (itP (nst v k) v k).1 3 = 0 := by
      show ((itP (nst v k) v k).1 3 : Int) - (itP (nst v k) v k).1 3 = 0
      omega
    rw [e6, Int.add_zero]
  | succ m ih =>
    intro i d x2 M E F hi R hb
    have s := itP_S (v := v) (j := k) i
    have h3 := itP_3 (v := v) (j := k) i
    have hk' : k < (itP i v k).1 1 := by rw [s.2.1]; exact hk
    have e5 : (itP i v k).2 5 = v.2 5 := s.2.2.2.1 5 (by omega) (by omega) (by omega) (by omega)
    have hv' : pv_ok (itP i v k) := (itP_W (pvW_of hv) hk i).ok (by omega)
    have h44 : (itP i v k).1 3 ≤ 44 := by omega
    have hb1 : d.2.1 + (2 * (itP i v k).1 3 + 20) ≤ dm_L := (num7 hb h44 (Nat.le_refl _)).1
    obtain ⟨d1, M1, E1, F1, q1, R1, H1⟩ := stroke_ok (X := X) hv' hk' (by omega) (i := i) (by rw [e5]; omega) (x2 := x2) R hb1
    have hb2 := num7 hb h44 H1.2.1
    obtain ⟨d2, M2, E2, F2, q2, R2, H2⟩ := ih (i + 1) d1 (x2 + (((stP (itP i v k) k).1 3 : Int) - (itP i v k).1 3)) M1 E1 F1 (by omega) R1 hb2.2.1
    refine ⟨d2, M2, E2, F2, ?_, R2, (H1.tr H2).le hb2.2.2⟩
    rw [q1, q2]
    have e7 : itP (i + 1) v k = stP (itP i v k) k := rfl
    rw [e7, show x2 + (((stP (itP i v k) k).1 3 : Int) - (itP i v k).1 3) + (((engL v k).1 3 : Int) - (stP (itP i v k) k).1 3) = x2 + (((engL v k).1 3 : Int) - (itP i v k).1 3) by omega]
theorem engrave_ok (hv : pv_ok v) (hk : k < v.1 1) (hn : v.1 3 ≤ 40) (R : WR d w v tx N M E F) (hb : d.2.1 + 432 ≤ dm_L) : ∃ d' M E F, F_X12_engrave X (.inl 0, w) (iI k) d = some (iI (((engL v k).1 3 : Int) - v.1 3), d') ∧ WR d' w (engL v k) tx N M E F ∧ Hol 432 d d' := by
  have hst := nst_c hv hk
  obtain ⟨d1, M1, E1, F1, q1, R1, H1⟩ := engrave_lp (X := X) hv hk hn (nst v k) 0 d 0 M E F (Nat.zero_add _) R (Nat.le_trans (Nat.add_le_add_left (Nat.mul_le_mul_left 108 hst.2) _) hb)
  refine ⟨d1, M1, E1, F1, ?_, R1, H1.le (Nat.mul_le_mul_left 108 hst.2)⟩
  unfold F_X12_engrave
  rw [Int.zero_add] at q1
  exact q1
end ENK
