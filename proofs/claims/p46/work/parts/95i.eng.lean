section ENW
variable {X : dm_X} {d d1 d2 d' : dm_D} {w li p n k c m q : Nat} {v v' : pv_T} {tx : am_v} {N : Nat → Nat} {M : Nat → Int32} {E : Nat → am_G × Nat} {F : Nat → Nat → Nat} {u u' : Nat → Int32}
theorem v_ext {a b : pv_T} (h1 : a.1 = b.1) (h2 : ∀ c i, a.2 c i = b.2 c i) : a = b := Prod.ext h1 (funext fun c => funext fun i => h2 c i)
/-- a number of the World's is written -/
theorem WR.put (R : WR d w v tx N M E F) (hk : k < 5) (y : Int) : ∃ d', dm_pu d (.inl 0, w) 12 k (am_i (iI y)) = some d' ∧ WR d' w (pu v 0 k y) tx N M E F ∧ Hol 0 d d' ∧ ∀ i t m u, dAr d i t m u → dAr d' i t m u := by
  refine ⟨dm_se d w (.inl (12, wF (pu v 0 k y) N tx)), ?_, R.w0 rfl (fun c hc => funext fun i => pu_o hc), Hol.ob R.1, fun i t m u o => o.sg (ar_ne R.1 o)⟩
  rw [pu_at R.1 (Nat.lt_of_lt_of_le hk (ble rfl))]
  match k, hk with
  | 0, _ => rfl
  | 1, _ => rfl
  | 2, _ => rfl
  | 3, _ => rfl
  | 4, _ => rfl
theorem draw_ok (R : WR d w v tx N M E F) {n : Int} (hn : 0 < n ∧ n < 2147483648) : ∃ d', F_X12_draw X (.inl 0, w) (iI n) d = some (iI (rnd (lcg (v.2 0 2)) % n), d') ∧ WR d' w (pu v 0 2 (lcg (v.2 0 2))) tx N M E F ∧ Hol 0 d d' ∧ ∀ i t m u, dAr d i t m u → dAr d' i t m u := by
  obtain ⟨d1, h1, R1, H1, A1⟩ := R.put (k := 2) (by omega) (lcg (v.2 0 2))
  have hr := rnd_b (lcg (v.2 0 2))
  refine ⟨d1, ?_, R1, H1, A1⟩
  unfold F_X12_draw
  rw [fi_at R.1 rfl, Option.bind_some, lcg_e, h1, Option.bind_some, fi_at R1.1 rfl, Option.bind_some]
  rw [show (pu v 0 2 (lcg (v.2 0 2))).2 0 2 = lcg (v.2 0 2) from pu_s]
  generalize lcg (v.2 0 2) = x at hr ⊢
  rw [rnd_e, xI_0, if_neg (by rw [xI_eq (by omega) (by omega) (by omega) (by omega)]; omega)]
  generalize rnd x = z at hr ⊢
  rw [xI_rn (by omega) (by omega) (by omega) (by omega)]
/-- behind a stroke -/
theorem e100_ok (hs : 0 ≤ v.2 0 0 ∧ v.2 0 0 ≤ 99) (R : WR d w v tx N M E F) {x1 x2 : Int32} {i : Nat} : ∃ d', F_X12_engrave_100 X (.inl 0, w) x1 x2 (iI i) d = F_X12_engrave_4 X (.inl 0, w) x1 x2 (iI ((i + 1 : Nat) : Int)) d' ∧ WR d' w (pu (pu v 0 4 (v.2 0 4 + 1)) 0 0 (shp (v.2 0 0))) tx N M E F ∧ Hol 0 d d' := by
  obtain ⟨d1, h1, R1, H1, -⟩ := R.put (k := 4) (by omega) (v.2 0 4 + 1)
  obtain ⟨d2, h2, R2, H2, -⟩ := R1.put (k := 0) (by omega) (shp (v.2 0 0))
  refine ⟨d2, ?_, R2, H1.tr H2⟩
  have e0 : (pu v 0 4 (v.2 0 4 + 1)).2 0 0 = v.2 0 0 := pu_i (by omega)
  rw [E_X12_engrave_100, fi_at R.1 rfl, Option.bind_some, iI_a, h1, Option.bind_some, fi_at R1.1 rfl, Option.bind_some, e0]
  by_cases h : v.2 0 0 = 0
  · have e1 : shp (v.2 0 0) = 0 := by unfold shp; rw [if_neg (by omega)]
    rw [e1] at h2
    rw [h, xI_0, if_pos rfl, h2, Option.bind_some, iI_1]
    rfl
  · have e1 : shp (v.2 0 0) = v.2 0 0 - 1 := by unfold shp; split <;> omega
    rw [e1] at h2
    rw [xI_0, if_neg (by rw [xI_eq (by omega) (by omega) (by omega) (by omega)]; exact h), Option.bind_some, iI_s, h2, Option.bind_some, iI_1]
    rfl
theorem pu_at4 {v : pv_T} {c i c' i' : Nat} {x : Int} : (pu v c i x).2 c' i' = if c' = c then (if i' = i then x else v.2 c' i') else v.2 c' i' := rfl
theorem setG_0 {x : Int} : setG v (x, (gvO v).2.1, (gvO v).2.2.1, (gvO v).2.2.2 + 1) = pu (pu v 0 4 (v.2 0 4 + 1)) 0 0 x := by
  refine v_ext rfl (fun c i => ?_)
  unfold setG gvO
  simp only [pu_at4]
  by_cases hc : c = 0
  · subst hc
    simp only [if_true]
    by_cases j0 : i = 0
    · subst j0; simp
    · by_cases j2 : i = 2
      · subst j2; simp
      · by_cases j3 : i = 3
        · subst j3; simp
        · by_cases j4 : i = 4
          · subst j4; simp
          · simp [j0, j2, j3, j4]
  · simp [hc]
theorem setG_1 {x y : Int} : setG v (x, y, (gvO v).2.2.1, (gvO v).2.2.2 + 1) = pu (pu (pu v 0 2 y) 0 4 ((pu v 0 2 y).2 0 4 + 1)) 0 0 x := by
  refine v_ext rfl (fun c i => ?_)
  unfold setG gvO
  simp only [pu_at4]
  by_cases hc : c = 0
  · subst hc
    simp only [if_true]
    by_cases j0 : i = 0
    · subst j0; simp
    · by_cases j2 : i = 2
      · subst j2; simp
      · by_cases j3 : i = 3
        · subst j3; simp
        · by_cases j4 : i = 4
          · subst j4; simp
          · simp [j0, j2, j3, j4]
  · simp [hc]
theorem setG_2 {x y y2 r : Int} {j : Nat} : addS (setG v (x, y2, (gvO v).2.2.1 + 1, (gvO v).2.2.2 + 1)) j r = pu (pu (pu (addS (pu (pu v 0 2 y) 0 2 y2) j r) 0 3 ((addS (pu (pu v 0 2 y) 0 2 y2) j r).2 0 3 + 1)) 0 4 ((pu (addS (pu (pu v 0 2 y) 0 2 y2) j r) 0 3 ((addS (pu (pu v 0 2 y) 0 2 y2) j r).2 0 3 + 1)).2 0 4 + 1)) 0 0 x := by
  refine v_ext rfl (fun c i => ?_)
  unfold addS setG gvO pn
  simp only [pu_at4]
  by_cases hc : c = 0
  · subst hc
    simp only [if_true]
    by_cases j0 : i = 0
    · subst j0; simp
    · by_cases j2 : i = 2
      · subst j2; simp
      · by_cases j3 : i = 3
        · subst j3; simp
        · by_cases j4 : i = 4
          · subst j4; simp
          · simp [j0, j2, j3, j4]
  · simp [hc, pu]
theorem stroke_ok (hv : pv_ok v) (hk : k < v.1 1) (hn : v.1 3 < 100) {i : Nat} (hi : (i : Int) ≤ v.2 5 k % 4) {x2 : Int} (R : WR d w v tx N M E F) (hb : d.2.1 + (2 * v.1 3 + 20) ≤ dm_L) : ∃ d' M E F, F_X12_engrave_4 X (.inl 0, w) (iI k) (iI x2) (iI i) d = F_X12_engrave_4 X (.inl 0, w) (iI k) (iI (x2 + (((stP v k).1 3 : Int) - v.1 3))) (iI ((i + 1 : Nat) : Int)) d' ∧ WR d' w (stP v k) tx N M E F ∧ Hol (2 * v.1 3 + 20) d d' := by
  obtain ⟨g, a1, a2, a3, a4⟩ := R.2.2.2.2.1 k hk
  have h5 := hv.2.2.1 k hk
  have hS := hv.2.2.2.2.2.2
  have hk20 := hv.1.2.1
  obtain ⟨d1, e1, E1⟩ := hard_ok (X := X) hv hk R (by omega)
  have R1 := R.ext E1
  have hh := hd_b (v := v) hv k
  have hh2 : hdL v k = pv_hd v (pv_ct v k) := rfl
  have e0 : F_X12_engrave_4 X (.inl 0, w) (iI k) (iI x2) (iI i) d = (if iI (hdL v k - v.2 0 0) ≤ 0 then F_X12_engrave_100 X (.inl 0, w) (iI k) (iI x2) (iI i) d1 else ((F_X12_draw X (.inl 0, w) (iI (100)) d1).bind (fun a5 => if iI (2 * (hdL v k - v.2 0 0)) ≤ a5.1 then (F_X12_engrave_100 X (.inl 0, w) (iI k) (iI x2) (iI i) a5.2) else ((dm_fr a5.2 (.inl 0, w) 12 9).bind (fun w2 => (dm_na a5.2 0 (iI (2))).bind (fun d1 => (dm_wi d1 (.inl 0, a5.2.1) 0 (iI (0)) (iI k)).bind (fun d2 => (dm_rk d2 (.inl 0, w) 12).bind (fun u5 => (F_X12_draw X (.inl 0, w) (iI (20)) d2).bind (fun a6 => (dm_wi a6.2 (.inl 0, a5.2.1) 0 (iI (1)) ((iI (100)) + ((iI (100)) * a6.1))).bind (fun d3 => (dm_rk d3 w2 16).bind (fun u6 => (F_Jx4a65c_add_9ea2d X w2 (.inl 0, a5.2.1) d3).bind (fun a7 => (dm_fi a7.2 (.inl 0, w) 12 3).bind (fun a8 => (dm_pu a7.2 (.inl 0, w) 12 3 (am_i (a8 + (iI (1))))).bind (fun d4 => F_X12_engrave_100 X (.inl 0, w) (iI k) ((iI x2) + 1) (iI i) d4)))))))))))))) := by
    rw [E_X12_engrave_4, fr_at R.1 rfl, Option.bind_some, rk_at R.let.1, Option.bind_some, get_at R.let hk, Option.bind_some, ck_at a1, Option.bind_some, li0 a1 rfl rfl, Option.bind_some, a2, if_neg (by decide), xI_rn (by omega) (by omega) (by omega) (by omega), if_neg (by rw [xI_lt (by omega) (by omega) (by omega) (by omega)]; omega), rk_at R.1, Option.bind_some, e1, Option.bind_some]
    dsimp only
    rw [fi_at R1.1 rfl, Option.bind_some, iI_s, iI_m, rk_at R1.1, Option.bind_some]
    rfl
  rw [e0]
  unfold stP stk stk0
  by_cases c1 : hdL v k ≤ v.2 0 0
  · obtain ⟨d2, q1, q2, q3⟩ := e100_ok (X := X) (x1 := iI k) (x2 := iI x2) (i := i) ⟨hS.1, hS.2.1⟩ R1
    have e2 : (gvO v).1 = v.2 0 0 := rfl
    rw [if_pos (show hdL v k ≤ (gvO v).1 from c1)]
    rw [if_neg (show ¬ (0 : Int) < 0 by omega), xI_0, if_pos (by rw [xI_le (by omega) (by omega) (by omega) (by omega)]; omega)]
    have e3 : x2 + (((setG v (shp (gvO v).1, (gvO v).2.1, (gvO v).2.2.1, (gvO v).2.2.2 + 1)).1 3 : Int) - v.1 3) = x2 := by
      show x2 + ((v.1 3 : Int) - v.1 3) = x2
      omega
    rw [e3]
    refine ⟨d2, M, E, F, q1, ?_, (E1.hol.tr q3).le (by omega)⟩
    have e4 : setG v (shp (gvO v).1, (gvO v).2.1, (gvO v).2.2.1, (gvO v).2.2.2 + 1) = pu (pu v 0 4 (v.2 0 4 + 1)) 0 0 (shp (v.2 0 0)) := by
      exact setG_0
    rw [e4]
    exact q2
  · rw [if_neg (show ¬ hdL v k ≤ (gvO v).1 from c1), xI_0, if_neg (by rw [xI_le (by omega) (by omega) (by omega) (by omega)]; omega)]
    obtain ⟨d2, q1, R2, H2, A2⟩ := draw_ok (X := X) (n := 100) R1 (by omega)
    rw [q1, Option.bind_some]
    dsimp only
    have e5 : (gvO v).2.1 = v.2 0 2 := rfl
    have e6 : (gvO v).1 = v.2 0 0 := rfl
    rw [e5, e6]
    have hr1 := rnd_b (lcg (v.2 0 2))
    have hm1 := Int.emod_nonneg (rnd (lcg (v.2 0 2))) (show (100 : Int) ≠ 0 by omega)
    have hm2 := Int.emod_lt_of_pos (rnd (lcg (v.2 0 2))) (show (0 : Int) < 100 by omega)
    by_cases c2 : 2 * (hdL v k - v.2 0 0) ≤ rnd (lcg (v.2 0 2)) % 100
    · rw [if_pos c2, if_neg (show ¬ (0 : Int) < 0 by omega), if_pos (by rw [xI_le (by omega) (by omega) (by omega) (by omega)]; exact c2)]
      generalize lcg (v.2 0 2) = y at R2 ⊢
      obtain ⟨d3, t1, t2, t3⟩ := e100_ok (X := X) (v := pu v 0 2 y) (x1 := iI k) (x2 := iI x2) (i := i) (by rw [pu_i (by omega)]; exact ⟨hS.1, hS.2.1⟩) R2
      have e3 : x2 + (((setG v (shp (v.2 0 0), y, (gvO v).2.2.1, (gvO v).2.2.2 + 1)).1 3 : Int) - v.1 3) = x2 := by
        show x2 + ((v.1 3 : Int) - v.1 3) = x2
        omega
      rw [e3]
      refine ⟨d3, M, E, F, t1, ?_, ((E1.hol.tr H2).tr t3).le (by omega)⟩
      rw [setG_1]
      rw [pu_i (v := v) (c := 0) (i := 2) (i' := 0) (by omega)] at t2
      exact t2
    · rw [if_neg c2, if_neg (by rw [xI_le (by omega) (by omega) (by omega) (by omega)]; exact c2)]
      have hr2 := rnd_b (lcg (lcg (v.2 0 2)))
      have hm3 := Int.emod_nonneg (rnd (lcg (lcg (v.2 0 2)))) (show (20 : Int) ≠ 0 by omega)
      have hm4 := Int.emod_lt_of_pos (rnd (lcg (lcg (v.2 0 2)))) (show (0 : Int) < 20 by omega)
      rw [if_pos (show (0 : Int) < 100 * (1 + rnd (lcg (lcg (v.2 0 2))) % 20) by omega)]
      have hc1 := E1.2.1
      have hc2 := H2.2.1
      rw [fr_at R2.1 rfl, Option.bind_some, na_at (z := 2) (by omega) (by omega) (by show d2.2.1 + 2 + 1 ≤ dm_L; omega), Option.bind_some]
      have X3 : Ext 3 d2 (dm_nw d2 2 (.inr (.inl (0, 2, fun _ => 0)))) := Ext.nw
      have X4 : Ext 3 d2 (dm_nw d2 2 (.inr (.inl (0, 2, upd (fun _ => 0) 0 (iI k))))) := Ext.nw
      have e7 : dm_wi (dm_nw d2 (2 : Int).toNat (.inr (.inl (0, (2 : Int).toNat, fun _ => 0)))) (.inl 0, d2.1) 0 (iI 0) (iI k) = some (dm_nw d2 2 (.inr (.inl (0, 2, upd (fun _ => 0) 0 (iI k))))) := by
        rw [wi_at (n := 2) (f := fun _ => 0) dAr.nw (ib1 (a := 0) (by omega) (by omega))]
        exact congrArg some nw_se
      rw [e7, Option.bind_some, rk_at (X4.ob R2.1), Option.bind_some]
      obtain ⟨d3, p1, R3, H3, A3⟩ := draw_ok (X := X) (n := 20) (R2.ext X4) (by omega)
      rw [show (pu v 0 2 (lcg (v.2 0 2))).2 0 2 = lcg (v.2 0 2) from pu_s] at p1 R3
      rw [p1, Option.bind_some]
      dsimp only
      generalize lcg (lcg (v.2 0 2)) = y2 at R3 hr2 hm3 hm4 ⊢
      generalize lcg (v.2 0 2) = y at R3 R2 ⊢
      have o3 : dAr d3 d2.1 0 2 (upd (fun _ => 0) 0 (iI k)) := A3 _ _ _ _ dAr.nw
      rw [iI_m, iI_a, wi_at o3 (ib1 (a := 1) (by omega) (by omega)), Option.bind_some]
      sorry
end ENW
