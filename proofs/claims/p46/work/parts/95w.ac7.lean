section ADB
variable {X : dm_X} {d : dm_D} {h : am_H} {w : Nat} {tx : am_v} {N : Nat → Nat} {st : St}
theorem cN_oth {v : pv_T} {l : Nat} : ∀ n, (cN (fun j => decide (v.2 12 j = (l : Int))) n : Int) = n - cN (oth v l) n
  | 0 => rfl
  | n + 1 => by
    have ih := cN_oth (v := v) (l := l) n
    by_cases c : v.2 12 n = (l : Int)
    · rw [cN_t (p := fun j => decide (v.2 12 j = (l : Int))) (decide_eq_true c), cN_f (p := oth v l) (decide_eq_false (fun z => z c))]
      omega
    · rw [cN_f (p := fun j => decide (v.2 12 j = (l : Int))) (decide_eq_false c), cN_t (p := oth v l) (decide_eq_true c)]
      omega
theorem act7 (B : Both w tx N h d st) {M : Nat → Int32} {E : Nat → am_G × Nat} {F : Nat → Nat → Nat} (R : WR d w st.1 tx N M E F) {p : Nat} (hp : p < st.1.1 1) (hb : d.2.1 + 5 ≤ dm_L) : ActOk w tx N 5 d ((dm_li X d (.inl 0, F 2 p) (iI (1))).bind (fun a6 => if a6 = 0 then (some ((iI (1)), h, d)) else ((dm_li X d (.inl 0, F 2 p) (iI (2))).bind (fun a7 => if a7 = (iI (3)) then (some ((iI (1)), h, d)) else ((dm_wi d (.inl 0, F 2 p) 0 (iI (1)) (iI (0))).bind (fun d1 => (dm_li X d1 (.inl 0, F 2 p) (iI (2))).bind (fun a8 => (dm_wi d1 (.inl 0, F 2 p) 0 (iI (2)) (a8 + (iI (1)))).bind (fun d2 => (dm_rk d2 (.inl 0, w) 12).bind (fun u5 => (F_X12_scratchesOf X (.inl 0, w) (iI p) d2).bind (fun a9 => (dm_fr a9.2 (.inl 0, w) 12 9).bind (fun w4 => (dm_rk a9.2 w4 16).bind (fun u6 => (F_Jx4a65c_size_8abf5 X w4 a9.2).bind (fun a10 => F_L_acts_497 X (.inl 0, w) (iI p) a9.1 (a10 - (iI (1))) h a9.2))))))))))))) := by
  have B0 := B
  obtain ⟨ok, C, I, hf, -⟩ := B
  have h20 := ok.1.1.1.2.1
  have h44 := ok.1.1.1.2.2.2
  have h5 := ok.1.1.2.2.1 p hp
  obtain ⟨g, o, g0, g1, g2⟩ := R.2.2.2.2.1 p hp
  rw [li1 o rfl rfl, Option.bind_some, g1]
  by_cases c : st.1.2 6 p = 0
  · refine ⟨(iI 1, h, d), st, ?_, one_n0, B0, Hol.rf.le (Nat.zero_le _)⟩
    rw [c, if_pos (show iI 0 = (0 : Int32) from rfl)]
  · rw [xI_0, if_neg (by rw [xI_eq (by omega) (by omega) (by omega) (by omega)]; exact c), li2 o rfl rfl, Option.bind_some, g2]
    by_cases c3 : st.1.2 7 p = 3
    · refine ⟨(iI 1, h, d), st, ?_, one_n0, B0, Hol.rf.le (Nat.zero_le _)⟩
      rw [c3, if_pos rfl]
    · have R1 := R.let1 (k := p) hp (x := 0) o ⟨g0, g2⟩
      have o1 : dAr (dm_se d (F 2 p) (.inr (.inl (0, 3, upd g 1 (iI 0))))) (F 2 p) 0 3 (upd g 1 (iI 0)) := dAr.se o.1
      have R2 := R1.let2 (k := p) hp (x := st.1.2 7 p + 1) o1 ⟨g0, by rw [pu_s]; rfl⟩
      have hv2 : pv_ok (pu (pu st.1 6 p 0) 7 p (st.1.2 7 p + 1)) := by
        refine ⟨ok.1.1.1, ok.1.1.2.1, fun i hi => ?_, ok.1.1.2.2.2.1, ok.1.1.2.2.2.2.1, ok.1.1.2.2.2.2.2.1, ok.1.1.2.2.2.2.2.2⟩
        have h6 := ok.1.1.2.2.1 i hi
        simp only [pu_at4]
        refine ⟨by simpa using h6.1, by simpa using h6.2.1, ?_⟩
        by_cases e : i = p
        · subst e; simp; omega
        · simp [e]; omega
      have H1 : Hol 0 d (dm_se d (F 2 p) (.inr (.inl (0, 3, upd g 1 (iI 0))))) := Hol.ar o
      have H2 : Hol 0 (dm_se d (F 2 p) (.inr (.inl (0, 3, upd g 1 (iI 0))))) (dm_se (dm_se d (F 2 p) (.inr (.inl (0, 3, upd g 1 (iI 0))))) (F 2 p) (.inr (.inl (0, 3, upd (upd g 1 (iI 0)) 2 (iI (st.1.2 7 p + 1)))))) := Hol.ar o1
      obtain ⟨d3, q3, E3⟩ := scrOf_ok (X := X) hv2 (a := p) (by omega) R2 hb
      have R3 := R2.ext E3
      obtain ⟨d4, M4, E4, F4, q4, R4, H4⟩ := pol_lp (X := X) (h := h) hv2 (l := p) (by omega) (x8 := iI (cN (fun j => decide ((pu (pu st.1 6 p 0) 7 p (st.1.2 7 p + 1)).2 12 j = (p : Int))) (st.1.1 3))) (st.1.1 3) d3 M E F (Nat.le_refl _) (R3.drn p)
      have H5 := ((H1.tr H2).tr E3.hol).tr H4
      obtain ⟨h1, q1, C1, -⟩ := cl_polish ok C (i := (p : Int)) (by omega)
      have e1 : oPo st p = .inl (iI ((st.1.1 3 : Int) - cN (oth st.1 p) (st.1.1 3))) := by
        unfold oPo
        rw [if_pos (by omega), Int.toNat_natCast, if_pos (by omega)]
      have e3 : (sPo st p).1 = poV st.1 p := by
        unfold sPo
        rw [Int.toNat_natCast, if_pos ⟨by omega, by omega, by omega⟩]
        rfl
      refine ⟨(iI 1, h1, d4), sPo st p, ?_, one_n0, ⟨sPo_ok ok, C1, ?_, H5.full hf, M4, E4, F4, ?_⟩, H5⟩
      · rw [if_neg (by rw [xI_eq (by omega) (by omega) (by omega) (by omega)]; exact c3), wi1 o rfl rfl, Option.bind_some, li2 o1 rfl rfl, Option.bind_some, show upd g 1 (iI 0) 2 = g 2 from if_neg (by omega), g2, iI_a, wi2 o1 rfl rfl, Option.bind_some, rk_at R2.1, Option.bind_some, q3, Option.bind_some]
        dsimp only
        rw [fr_at R3.1 rfl, Option.bind_some, rk_at R3.scr.1, Option.bind_some, size_at R3.scr, Option.bind_some, iI_s]
        refine q4.trans ?_
        rw [E_L_acts_497, if_pos (by decide), q1, dm_cl_of (H5.full hf), Option.bind_some]
        dsimp only
        rw [e1, show (fun j => decide ((pu (pu st.1 6 p 0) 7 p (st.1.2 7 p + 1)).2 12 j = (p : Int))) = (fun j => decide (st.1.2 12 j = (p : Int))) from rfl, cN_oth]
        show (some (iI ((st.1.1 3 : Int) - cN (oth st.1 p) (st.1.1 3)))).bind _ = _
        rw [Option.bind_some, if_pos rfl]
      · rw [e3]
        exact poV_I ok.1.1 I
      · rw [e3]
        have e9 := R4
        rw [drI_0] at e9
        exact e9
end ADB
