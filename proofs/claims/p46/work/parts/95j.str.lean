theorem num5 {a b n L : Nat} (h1 : a + (2 * n + 20) ≤ L) (h2 : b ≤ a + 5) : b + (2 * n + 15) ≤ L := by omega
theorem num6 (n : Nat) : 5 + (2 * n + 15) ≤ 2 * n + 20 := by omega
section STW
variable {X : dm_X} {d d1 d2 d' : dm_D} {w li p n k c m q : Nat} {v v' : pv_T} {tx : am_v} {N : Nat → Nat} {M : Nat → Int32} {E : Nat → am_G × Nat} {F : Nat → Nat → Nat} {u u' : Nat → Int32}
theorem stroke_ok (hv : pv_ok v) (hk : k < v.1 1) (hn : v.1 3 < 100) {i : Nat} (hi : (i : Int) ≤ v.2 5 k % 4) {x2 : Int} (R : WR d w v tx N M E F) (hb : d.2.1 + (2 * v.1 3 + 20) ≤ dm_L) : ∃ d' M E F, F_X12_engrave_4 X (.inl 0, w) (iI k) (iI x2) (iI i) d = F_X12_engrave_4 X (.inl 0, w) (iI k) (iI (x2 + (((stP v k).1 3 : Int) - v.1 3))) (iI ((i + 1 : Nat) : Int)) d' ∧ WR d' w (stP v k) tx N M E F ∧ Hol (2 * v.1 3 + 20) d d' := by
  obtain ⟨g, a1, a2, a3, a4⟩ := R.2.2.2.2.1 k hk
  have h5 := hv.2.2.1 k hk
  have hS := hv.2.2.2.2.2.2
  have hk20 := hv.1.2.1
  obtain ⟨d1, e1, E1⟩ := hard_ok (X := X) hv hk R (by omega)
  have R1 := R.ext E1
  have hh := hd_b (v := v) hv k
  have hh2 : hdL v k = pv_hd v (pv_ct v k) := rfl
  have e0 : F_X12_engrave_4 X (.inl 0, w) (iI k) (iI x2) (iI i) d = (if iI (hdL v k - v.2 0 0) ≤ 0 then F_X12_engrave_100 X (.inl 0, w) (iI k) (iI x2) (iI i) d1 else ((F_X12_draw X (.inl 0, w) (iI (100)) d1).bind (fun a5 => if iI (2 * (hdL v k - v.2 0 0)) ≤ a5.1 then (F_X12_engrave_100 X (.inl 0, w) (iI k) (iI x2) (iI i) a5.2) else ((dm_fr a5.2 (.inl 0, w) 12 9).bind (fun w2 => (dm_na a5.2 0 (iI (2))).bind (fun d1 => (dm_wi d1 (.inl 0, a5.2.1) 0 (iI (0)) (iI k)).bind (fun d2 => (dm_rk d2 (.inl 0, w) 12).bind (fun u5 => (F_X12_draw X (.inl 0, w) (iI (20)) d2).bind (fun a6 => (dm_wi a6.2 (.inl 0, a5.2.1) 0 (iI (1)) ((iI (100)) + ((iI (100)) * a6.1))).bind (fun d3 => (dm_rk d3 w2 16).bind (fun u6 => (F_Jx4a65c_add_9ea2d X w2 (.inl 0, a5.2.1) d3).bind (fun a7 => (dm_fi a7.2 (.inl 0, w) 12 3).bind (fun a8 => (dm_pu a7.2 (.inl 0, w) 12 3 (am_i (a8 + (iI (1))))).bind (fun d4 => F_X12_engrave_100 X (.inl 0, w) (iI k) ((iI x2) + 1) (iI i) d4)))))))))))))) := by
    rw [E_X12_engrave_4, fr_at R.1 rfl, Option.bind_some, rk_at R.let.1, Option.bind_some, get_at R.let hk, Option.bind_some, ck_at a1, Option.bind_some, li0 a1 rfl rfl, Option.bind_some, a2, if_neg (by decide), xI_rn (by omega) (by omega) (by omega) (by omega), if_neg (by rw [xI_lt (by omega) (by omega) (by omega) (by omega)]; omega), rk_at R.1, Option.bind_some, e1, Option.bind_some]
    dsimp only
    rw [fi_at R1.1 rfl, Option.bind_some, iI_s, iI_m, rk_at R1.1, Option.bind_some]
    rfl
  rw [e0]
  obtain ⟨y, hL⟩ : ∃ y, isL (v.2 0 2) y := ⟨_, rfl⟩
  obtain ⟨z, hR⟩ : ∃ z, isR y z := ⟨_, rfl⟩
  obtain ⟨y2, hL2⟩ : ∃ y2, isL y y2 := ⟨_, rfl⟩
  obtain ⟨z2, hR2⟩ : ∃ z2, isR y2 z2 := ⟨_, rfl⟩
  have hb2 := isR_b hR2
  have eS : stk (gvO v) (hdL v k) = stk0 (gvO v) (hdL v k) y y2 z z2 := by
    unfold stk
    rw [show lcg (gvO v).2.1 = y from hL, show lcg y = y2 from hL2, show rnd y = z from hR, show rnd y2 = z2 from hR2]
  unfold stP
  rw [eS]
  unfold stk0
  have e2 : (gvO v).1 = v.2 0 0 := rfl
  rw [e2]
  by_cases c1 : hdL v k ≤ v.2 0 0
  · obtain ⟨d2, q1, q2, q3⟩ := e100_ok (X := X) (x1 := iI k) (x2 := iI x2) (i := i) ⟨hS.1, hS.2.1⟩ R1
    rw [if_pos c1, if_neg (show ¬ (0 : Int) < 0 by omega), xI_0, if_pos (by rw [xI_le (by omega) (by omega) (by omega) (by omega)]; omega)]
    refine ⟨d2, M, E, F, ?_, ?_, (E1.hol.tr q3).le (by omega)⟩
    · rw [q1]
      show F_X12_engrave_4 X (.inl 0, w) (iI k) (iI x2) _ d2 = F_X12_engrave_4 X (.inl 0, w) (iI k) (iI (x2 + ((v.1 3 : Int) - v.1 3))) _ d2
      rw [Int.sub_self, Int.add_zero]
    · rw [setG_0]
      exact q2
  · rw [if_neg c1, xI_0, if_neg (by rw [xI_le (by omega) (by omega) (by omega) (by omega)]; omega)]
    have hc1 := E1.2.1
    by_cases c2 : 2 * (hdL v k - v.2 0 0) ≤ z % 100
    · rw [if_pos c2, if_neg (show ¬ (0 : Int) < 0 by omega)]
      obtain ⟨d2, q1, q2, q3⟩ := noslip_ok (X := X) (k := k) (x2 := x2) (i := i) ⟨hS.1, hS.2.1⟩ hL hR (by omega) c2 R1
      refine ⟨d2, M, E, F, ?_, q2, (E1.hol.tr q3).le (by omega)⟩
      rw [q1]
      show F_X12_engrave_4 X (.inl 0, w) (iI k) (iI x2) _ d2 = F_X12_engrave_4 X (.inl 0, w) (iI k) (iI (x2 + ((v.1 3 : Int) - v.1 3))) _ d2
      rw [Int.sub_self, Int.add_zero]
    · rw [if_neg c2, if_pos (show (0 : Int) < 100 * (1 + z2 % 20) by omega)]
      obtain ⟨d2, M', E', F', q1, q2, q3⟩ := slip_ok (X := X) (k := k) (x2 := x2) (i := i) ⟨hS.1, hS.2.1⟩ hn hL hR hL2 hR2 (by omega) c2 R1 (num5 hb hc1)
      refine ⟨d2, M', E', F', ?_, q2, (E1.hol.tr q3).le (num6 _)⟩
      rw [q1]
      show F_X12_engrave_4 X (.inl 0, w) (iI k) (iI (x2 + 1)) _ d2 = F_X12_engrave_4 X (.inl 0, w) (iI k) (iI (x2 + (((v.1 3 + 1 : Nat) : Int) - v.1 3))) _ d2
      rw [show ((v.1 3 + 1 : Nat) : Int) - v.1 3 = 1 by omega]
end STW
