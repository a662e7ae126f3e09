section ENW
variable {X : dm_X} {d d1 d2 d' : dm_D} {w li p n k c m q : Nat} {v v' : pv_T} {tx : am_v} {N : Nat → Nat} {M : Nat → Int32} {E : Nat → am_G × Nat} {F : Nat → Nat → Nat} {u u' : Nat → Int32}
theorem v_ext {a b : pv_T} (h1 : a.1 = b.1) (h2 : ∀ c i, a.2 c i = b.2 c i) : a = b := Prod.ext h1 (funext fun c => funext fun i => h2 c i)
/-- a number of the World's is written -/
theorem WR.put (R : WR d w v tx N M E F) (hk : k < 5) (y : Int) : ∃ d', dm_pu d (.inl 0, w) 12 k (am_i (iI y)) = some d' ∧ WR d' w (pu v 0 k y) tx N M E F ∧ Hol 0 d d' ∧ ∀ i t m u, dAr d i t m u → dAr d' i t m u := by
  refine ⟨dm_se d w (.inl (12, wF (pu v 0 k y) N tx)), ?_, R.w0 rfl (fun c hc => funext fun i => pu_o hc), Hol.ob R.1, fun i t m u o => o.sg (ar_ne R.1 o)⟩
  rw [pu_at R.1 (Nat.lt_of_lt_of_le hk (ble rfl))]
  match k, hk with
  | 0, _ => rfl
  | 1, _ => rfl
  | 2, _ => rfl
  | 3, _ => rfl
  | 4, _ => rfl
theorem draw_ok (R : WR d w v tx N M E F) {n : Int} (hn : 0 < n ∧ n < 2147483648) : ∃ d', F_X12_draw X (.inl 0, w) (iI n) d = some (iI (rnd (lcg (v.2 0 2)) % n), d') ∧ WR d' w (pu v 0 2 (lcg (v.2 0 2))) tx N M E F ∧ Hol 0 d d' ∧ ∀ i t m u, dAr d i t m u → dAr d' i t m u := by
  obtain ⟨d1, h1, R1, H1, A1⟩ := R.put (k := 2) (by omega) (lcg (v.2 0 2))
  have hr := rnd_b (lcg (v.2 0 2))
  refine ⟨d1, ?_, R1, H1, A1⟩
  unfold F_X12_draw
  rw [fi_at R.1 rfl, Option.bind_some, lcg_e, h1, Option.bind_some, fi_at R1.1 rfl, Option.bind_some]
  rw [show (pu v 0 2 (lcg (v.2 0 2))).2 0 2 = lcg (v.2 0 2) from pu_s]
  generalize lcg (v.2 0 2) = x at hr ⊢
  rw [rnd_e, xI_0, if_neg (by rw [xI_eq (by omega) (by omega) (by omega) (by omega)]; omega)]
  generalize rnd x = z at hr ⊢
  rw [xI_rn (by omega) (by omega) (by omega) (by omega)]
/-- what is drawn, hidden from arithmetic -/
def isL (x y : Int) : Prop := lcg x = y
def isR (x y : Int) : Prop := rnd x = y
theorem isR_b {x y : Int} (h : isR x y) : 0 ≤ y ∧ y ≤ 65535 := by
  have := rnd_b x
  rw [show rnd x = y from h] at this
  exact this
theorem draw_g (R : WR d w v tx N M E F) {n y z : Int} (hL : isL (v.2 0 2) y) (hR : isR y z) (hn : 0 < n ∧ n < 2147483648) : ∃ d', F_X12_draw X (.inl 0, w) (iI n) d = some (iI (z % n), d') ∧ WR d' w (pu v 0 2 y) tx N M E F ∧ Hol 0 d d' ∧ ∀ i t m u, dAr d i t m u → dAr d' i t m u := by
  have h := draw_ok (X := X) R hn
  rw [show lcg (v.2 0 2) = y from hL, show rnd y = z from hR] at h
  exact h
theorem wi0 {i q : Nat} {g : Nat → Int32} {y : Int32} (o : dAr d i 0 q g) (hk : Nat.blt 0 q = true) (hn : Nat.blt q 2147483648 = true) : dm_wi d (.inl 0, i) 0 (iI 0) y = some (dm_se d i (.inr (.inl (0, q, upd g 0 y)))) := wi_at o (ib1 (a := 0) (Nat.blt_eq.mp hk) (Nat.blt_eq.mp hn))
theorem wi1 {i q : Nat} {g : Nat → Int32} {y : Int32} (o : dAr d i 0 q g) (hk : Nat.blt 1 q = true) (hn : Nat.blt q 2147483648 = true) : dm_wi d (.inl 0, i) 0 (iI 1) y = some (dm_se d i (.inr (.inl (0, q, upd g 1 y)))) := wi_at o (ib1 (a := 1) (Nat.blt_eq.mp hk) (Nat.blt_eq.mp hn))
theorem wi2 {i q : Nat} {g : Nat → Int32} {y : Int32} (o : dAr d i 0 q g) (hk : Nat.blt 2 q = true) (hn : Nat.blt q 2147483648 = true) : dm_wi d (.inl 0, i) 0 (iI 2) y = some (dm_se d i (.inr (.inl (0, q, upd g 2 y)))) := wi_at o (ib1 (a := 2) (Nat.blt_eq.mp hk) (Nat.blt_eq.mp hn))
/-- behind a stroke -/
theorem e100_ok (hs : 0 ≤ v.2 0 0 ∧ v.2 0 0 ≤ 99) (R : WR d w v tx N M E F) {x1 x2 : Int32} {i : Nat} : ∃ d', F_X12_engrave_100 X (.inl 0, w) x1 x2 (iI i) d = F_X12_engrave_4 X (.inl 0, w) x1 x2 (iI ((i + 1 : Nat) : Int)) d' ∧ WR d' w (pu (pu v 0 4 (v.2 0 4 + 1)) 0 0 (shp (v.2 0 0))) tx N M E F ∧ Hol 0 d d' := by
  obtain ⟨d1, h1, R1, H1, -⟩ := R.put (k := 4) (by omega) (v.2 0 4 + 1)
  obtain ⟨d2, h2, R2, H2, -⟩ := R1.put (k := 0) (by omega) (shp (v.2 0 0))
  refine ⟨d2, ?_, R2, H1.tr H2⟩
  have e0 : (pu v 0 4 (v.2 0 4 + 1)).2 0 0 = v.2 0 0 := pu_i (by omega)
  rw [E_X12_engrave_100, fi_at R.1 rfl, Option.bind_some, iI_a, h1, Option.bind_some, fi_at R1.1 rfl, Option.bind_some, e0]
  by_cases h : v.2 0 0 = 0
  · have e1 : shp (v.2 0 0) = 0 := by unfold shp; rw [if_neg (by omega)]
    rw [e1] at h2
    rw [h, xI_0, if_pos rfl, h2, Option.bind_some, iI_1]
    rfl
  · have e1 : shp (v.2 0 0) = v.2 0 0 - 1 := by unfold shp; split <;> omega
    rw [e1] at h2
    rw [xI_0, if_neg (by rw [xI_eq (by omega) (by omega) (by omega) (by omega)]; exact h), Option.bind_some, iI_s, h2, Option.bind_some, iI_1]
    rfl
theorem pu_at4 {v : pv_T} {c i c' i' : Nat} {x : Int} : (pu v c i x).2 c' i' = if c' = c then (if i' = i then x else v.2 c' i') else v.2 c' i' := rfl
theorem setG_0 {x : Int} : setG v (x, (gvO v).2.1, (gvO v).2.2.1, (gvO v).2.2.2 + 1) = pu (pu v 0 4 (v.2 0 4 + 1)) 0 0 x := by
  refine v_ext rfl (fun c i => ?_)
  unfold setG gvO
  simp only [pu_at4]
  by_cases hc : c = 0
  · subst hc
    simp only [if_true]
    by_cases j0 : i = 0
    · subst j0; simp
    · by_cases j2 : i = 2
      · subst j2; simp
      · by_cases j3 : i = 3
        · subst j3; simp
        · by_cases j4 : i = 4
          · subst j4; simp
          · simp [j0, j2, j3, j4]
  · simp [hc]
theorem setG_1 {x y : Int} : setG v (x, y, (gvO v).2.2.1, (gvO v).2.2.2 + 1) = pu (pu (pu v 0 2 y) 0 4 ((pu v 0 2 y).2 0 4 + 1)) 0 0 x := by
  refine v_ext rfl (fun c i => ?_)
  unfold setG gvO
  simp only [pu_at4]
  by_cases hc : c = 0
  · subst hc
    simp only [if_true]
    by_cases j0 : i = 0
    · subst j0; simp
    · by_cases j2 : i = 2
      · subst j2; simp
      · by_cases j3 : i = 3
        · subst j3; simp
        · by_cases j4 : i = 4
          · subst j4; simp
          · simp [j0, j2, j3, j4]
  · simp [hc]
theorem setG_2 {x y y2 r : Int} {j : Nat} : addS (setG v (x, y2, (gvO v).2.2.1 + 1, (gvO v).2.2.2 + 1)) j r = pu (pu (pu (addS (pu (pu v 0 2 y) 0 2 y2) j r) 0 3 ((addS (pu (pu v 0 2 y) 0 2 y2) j r).2 0 3 + 1)) 0 4 ((pu (addS (pu (pu v 0 2 y) 0 2 y2) j r) 0 3 ((addS (pu (pu v 0 2 y) 0 2 y2) j r).2 0 3 + 1)).2 0 4 + 1)) 0 0 x := by
  refine v_ext rfl (fun c i => ?_)
  unfold addS setG gvO pn
  simp only [pu_at4]
  by_cases hc : c = 0
  · subst hc
    simp only [if_true]
    by_cases j0 : i = 0
    · subst j0; simp
    · by_cases j2 : i = 2
      · subst j2; simp
      · by_cases j3 : i = 3
        · subst j3; simp
        · by_cases j4 : i = 4
          · subst j4; simp
          · simp [j0, j2, j3, j4]
  · simp [hc, pu]
theorem num4 {a b c e n L : Nat} (h1 : a + (2 * n + 15) ≤ L) (h2 : b ≤ a + 0) (h3 : c ≤ b + 3) (h4 : e ≤ c + 0) : e + (2 * n + 12) ≤ L := by omega
theorem slip_ok (hS : 0 ≤ v.2 0 0 ∧ v.2 0 0 ≤ 99) (hn : v.1 3 < 100) {y z y2 z2 : Int} (hL : isL (v.2 0 2) y) (hR : isR y z) (hL2 : isL y y2) (hR2 : isR y2 z2) {x2 h : Int} {i : Nat} (hh : -100 ≤ h ∧ h ≤ 100) (c2 : ¬ 2 * h ≤ z % 100) (R : WR d w v tx N M E F) (hb : d.2.1 + (2 * v.1 3 + 15) ≤ dm_L) : ∃ d' M E F, ((F_X12_draw X (.inl 0, w) (iI (100)) d).bind (fun a5 => if iI (2 * h) ≤ a5.1 then (F_X12_engrave_100 X (.inl 0, w) (iI k) (iI x2) (iI i) a5.2) else ((dm_fr a5.2 (.inl 0, w) 12 9).bind (fun w2 => (dm_na a5.2 0 (iI (2))).bind (fun d1 => (dm_wi d1 (.inl 0, a5.2.1) 0 (iI (0)) (iI k)).bind (fun d2 => (dm_rk d2 (.inl 0, w) 12).bind (fun u5 => (F_X12_draw X (.inl 0, w) (iI (20)) d2).bind (fun a6 => (dm_wi a6.2 (.inl 0, a5.2.1) 0 (iI (1)) ((iI (100)) + ((iI (100)) * a6.1))).bind (fun d3 => (dm_rk d3 w2 16).bind (fun u6 => (F_Jx4a65c_add_9ea2d X w2 (.inl 0, a5.2.1) d3).bind (fun a7 => (dm_fi a7.2 (.inl 0, w) 12 3).bind (fun a8 => (dm_pu a7.2 (.inl 0, w) 12 3 (am_i (a8 + (iI (1))))).bind (fun d4 => F_X12_engrave_100 X (.inl 0, w) (iI k) ((iI x2) + 1) (iI i) d4))))))))))))) = F_X12_engrave_4 X (.inl 0, w) (iI k) (iI (x2 + 1)) (iI ((i + 1 : Nat) : Int)) d' ∧ WR d' w (addS (setG v (shp (v.2 0 0), y2, (gvO v).2.2.1 + 1, (gvO v).2.2.2 + 1)) k (100 * (1 + z2 % 20))) tx N M E F ∧ Hol (2 * v.1 3 + 15) d d' := by
  obtain ⟨d2, q1, R2, H2, A2⟩ := draw_g (X := X) (n := 100) R hL hR (by omega)
  have hb1 := isR_b hR
  have hb2 := isR_b hR2
  have hc2 := H2.2.1
  rw [q1, Option.bind_some]
  dsimp only
  rw [if_neg (by rw [xI_le (by omega) (by omega) (by omega) (by omega)]; exact c2), fr_at R2.1 rfl, Option.bind_some, na_at (z := 2) (by omega) (by omega) (by show d2.2.1 + 2 + 1 ≤ dm_L; omega), Option.bind_some]
  have X4 : Ext 3 d2 (dm_nw d2 2 (.inr (.inl (0, 2, upd (fun _ => 0) 0 (iI k))))) := Ext.nw
  have e7 : dm_wi (dm_nw d2 (2 : Int).toNat (.inr (.inl (0, (2 : Int).toNat, fun _ => 0)))) (.inl 0, d2.1) 0 (iI 0) (iI k) = some (dm_nw d2 2 (.inr (.inl (0, 2, upd (fun _ => 0) 0 (iI k))))) := by
    show dm_wi (dm_nw d2 2 (.inr (.inl (0, 2, fun _ => 0)))) (.inl 0, d2.1) 0 (iI 0) (iI k) = _
    rw [wi0 dAr.nw rfl rfl, nw_se]
  rw [e7, Option.bind_some, rk_at (X4.ob R2.1), Option.bind_some]
  have hL2' : isL ((pu v 0 2 y).2 0 2) y2 := by rw [pu_s]; exact hL2
  obtain ⟨d3, p1, R3, H3, A3⟩ := draw_g (X := X) (n := 20) (R2.ext X4) hL2' hR2 (by omega)
  have hc3 := H3.2.1
  have hc4 := X4.2.1
  have o3 : dAr d3 d2.1 0 2 (upd (fun _ => 0) 0 (iI k)) := A3 _ _ _ _ dAr.nw
  rw [p1, Option.bind_some]
  dsimp only
  rw [iI_m, iI_a, wi1 o3 rfl rfl, Option.bind_some]
  -- the row is complete; it is in no list yet
  have hq : d2.1 < d3.1 := o3.1
  have o4 : dAr (dm_se d3 d2.1 (.inr (.inl (0, 2, upd (upd (fun _ => 0) 0 (iI k)) 1 (iI (100 + 100 * (z2 % 20))))))) d2.1 0 2 (upd (upd (fun _ => 0) 0 (iI k)) 1 (iI (100 + 100 * (z2 % 20)))) := dAr.se hq
  have R4 : WR (dm_se d3 d2.1 (.inr (.inl (0, 2, upd (upd (fun _ => 0) 0 (iI k)) 1 (iI (100 + 100 * (z2 % 20))))))) w (pu (pu v 0 2 y) 0 2 y2) tx N M E F := by
    refine R3.row o3 rfl rfl ?_ (fun i hi => ?_) (fun i hi => ?_) (fun i hi => ?_)
    · obtain ⟨f, a, b⟩ := R3.2.1
      exact ⟨f, a.sg (ar_len a o3 (by omega)), b⟩
    · obtain ⟨f, a, b⟩ := R3.2.2.2.1 i hi
      exact ⟨f, a.sg (ar_len a o3 (by omega)), b⟩
    · obtain ⟨f, a, b⟩ := R3.2.2.2.2.1 i hi
      exact ⟨f, a.sg (ar_len a o3 (by omega)), b⟩
    · obtain ⟨f, a, b⟩ := R3.2.2.2.2.2.1 i hi
      obtain ⟨f2, a2, -⟩ := R2.2.2.2.2.2.1 i hi
      exact ⟨f, a.sg (by have := a2.1; omega), b⟩
  have e9 : iI (100 + 100 * (z2 % 20)) = iI (100 * (1 + z2 % 20)) := by rw [show 100 + 100 * (z2 % 20) = 100 * (1 + z2 % 20) by omega]
  rw [rk_at R4.scr.1, Option.bind_some]
  obtain ⟨d5, M', E', F', g1, R5, H5⟩ := R4.add (X := X) (q := d2.1) (l := k) (x := 100 * (1 + z2 % 20)) (by show v.1 3 < 900; omega) o4 ⟨rfl, e9⟩ (num4 hb hc2 hc4 hc3)
  rw [g1, Option.bind_some]
  dsimp only
  obtain ⟨d6, g2, R6, H6, -⟩ := R5.put (k := 3) (by omega) ((addS (pu (pu v 0 2 y) 0 2 y2) k (100 * (1 + z2 % 20))).2 0 3 + 1)
  rw [fi_at R5.1 rfl, Option.bind_some, iI_a, g2, Option.bind_some]
  obtain ⟨d7, t1, t2, t3⟩ := e100_ok (X := X) (v := pu (addS (pu (pu v 0 2 y) 0 2 y2) k (100 * (1 + z2 % 20))) 0 3 ((addS (pu (pu v 0 2 y) 0 2 y2) k (100 * (1 + z2 % 20))).2 0 3 + 1)) (x1 := iI k) (x2 := iI x2 + 1) (i := i) (show 0 ≤ v.2 0 0 ∧ v.2 0 0 ≤ 99 from hS) R6
  refine ⟨d7, M', E', F', by rw [t1, iI_1], ?_, ?_⟩
  · rw [setG_2 (y := y)]
    exact t2
  · exact (((((H2.tr X4.hol).tr H3).tr (Hol.ar o3)).tr ((H5.tr H6).tr t3))).le (by show 0 + 3 + 0 + 0 + (2 * v.1 3 + 12 + 0 + 0) ≤ _; omega)
theorem noslip_ok (hS : 0 ≤ v.2 0 0 ∧ v.2 0 0 ≤ 99) {y z : Int} (hL : isL (v.2 0 2) y) (hR : isR y z) {x2 h : Int} {i : Nat} {T : (Int32 × dm_D) → Option (Int32 × dm_D)} (hh : -100 ≤ h ∧ h ≤ 100) (c2 : 2 * h ≤ z % 100) (R : WR d w v tx N M E F) : ∃ d', ((F_X12_draw X (.inl 0, w) (iI (100)) d).bind (fun a5 => if iI (2 * h) ≤ a5.1 then (F_X12_engrave_100 X (.inl 0, w) (iI k) (iI x2) (iI i) a5.2) else T a5)) = F_X12_engrave_4 X (.inl 0, w) (iI k) (iI x2) (iI ((i + 1 : Nat) : Int)) d' ∧ WR d' w (setG v (shp (v.2 0 0), y, (gvO v).2.2.1, (gvO v).2.2.2 + 1)) tx N M E F ∧ Hol 0 d d' := by
  obtain ⟨d2, q1, R2, H2, A2⟩ := draw_g (X := X) (n := 100) R hL hR (by omega)
  have hb1 := isR_b hR
  rw [q1, Option.bind_some]
  dsimp only
  rw [if_pos (by rw [xI_le (by omega) (by omega) (by omega) (by omega)]; exact c2)]
  obtain ⟨d3, t1, t2, t3⟩ := e100_ok (X := X) (v := pu v 0 2 y) (x1 := iI k) (x2 := iI x2) (i := i) (show 0 ≤ v.2 0 0 ∧ v.2 0 0 ≤ 99 from hS) R2
  refine ⟨d3, t1, ?_, H2.tr t3⟩
  rw [setG_1]
  exact t2
end ENW
