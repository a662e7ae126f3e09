section ACW
variable {X : dm_X} {d : dm_D} {h : am_H} {w : Nat} {tx : am_v} {N : Nat → Nat} {st : St}
theorem meV_I {v : pv_T} (I : Inv v) {s : Nat} (hs : s < v.1 3) : Inv (meV v s) := fun i hi => by
  have hi : i < v.1 3 - 1 := hi
  show (dropS (pu v 7 _ _) s).2 6 ((dropS (pu v 7 _ _) s).2 12 i).toNat = 1 ∧ (dropS (pu v 7 _ _) s).2 13 i % 100 = 0
  rw [dropS_c (c := 6) (by omega) (by omega), dropS_s (Or.inl rfl), dropS_s (Or.inr rfl), pu_o (by omega), pu_o (by omega), pu_o (by omega), pu_o (by omega), pu_o (by omega)]
  by_cases h : i < s
  · rw [if_pos h, if_pos h]
    exact I i (by omega)
  · rw [if_neg h, if_neg h]
    exact I (i + 1) (by omega)
theorem act5 (B : Both w tx N h d st) {z : Int} (hz : 0 ≤ z ∧ z < 400000) : ActOk w tx N 0 d ((dm_fr d (.inl 0, w) 12 9).bind (fun w1 => (dm_rk d w1 16).bind (fun u1 => (F_Jx4a65c_isEmpty_aae02 X w1 d).bind (fun a3 => if a3 = 0 then ((dm_fr d (.inl 0, w) 12 9).bind (fun w2 => (dm_rk d w2 16).bind (fun u2 => (F_Jx4a65c_size_8abf5 X w2 d).bind (fun a4 => if a4 = 0 then none else ((dm_fr d (.inl 0, w) 12 7).bind (fun w3 => (dm_fr d (.inl 0, w) 12 9).bind (fun w4 => (dm_rk d w4 16).bind (fun u3 => (F_Jx4a65c_get_915e3 X w4 (iI z - iI z / a4 * a4) d).bind (fun a5 => (dm_ck d a5).bind (fun u4 => (dm_li X d a5 (iI (0))).bind (fun a6 => (dm_rk d w3 16).bind (fun u5 => (F_Jx4a65c_get_915e3 X w3 a6 d).bind (fun a7 => (dm_ck d a7).bind (fun u6 => (dm_li X d a7 (iI (2))).bind (fun a8 => if a8 = (iI (3)) then (some ((iI (1)), h, d)) else ((dm_li X d a7 (iI (2))).bind (fun a9 => (dm_wi d a7 0 (iI (2)) (a9 + (iI (1)))).bind (fun d1 => (dm_fr d1 (.inl 0, w) 12 9).bind (fun w5 => (dm_rk d1 w5 16).bind (fun u7 => (F_Jx4a65c_remove_915e3 X w5 (iI z - iI z / a4 * a4) d1).bind (fun a10 => (dm_cl a10.2 (f_X11_mend (iI z - iI z / a4 * a4) h)).bind (fun a11 => (dm_v a11.1).bind (fun a12 => (dm_fr a10.2 (.inl 0, w) 12 9).bind (fun w6 => (dm_rk a10.2 w6 16).bind (fun u8 => (F_Jx4a65c_size_8abf5 X w6 a10.2).bind (fun a13 => if a12 = a13 then (some ((iI (1)), a11.2, a10.2)) else (some ((iI (0)), a11.2, a10.2)))))))))))))))))))))))))))) else (some ((iI (1)), h, d)))))) := by
  have B0 := B
  obtain ⟨ok, C, I, hf, M, E, F, R⟩ := B
  have h8 := ok.1.1.1.2.2.2
  have h20 := ok.1.1.1.2.1
  by_cases h0 : st.1.1 3 = 0
  · refine ⟨(iI 1, h, d), st, ?_, one_n0, B0, Hol.rf⟩
    rw [fr_at R.1 rfl, Option.bind_some, rk_at R.scr.1, Option.bind_some, empty_at R.scr, Option.bind_some, xI_0, if_bI0, if_pos h0]
  · have hn0 : (0 : Int) < (st.1.1 3 : Int) := by omega
    have hm1 := Int.emod_nonneg z (show (st.1.1 3 : Int) ≠ 0 by omega)
    have hm2 := Int.emod_lt_of_pos z hn0
    obtain ⟨p, hp⟩ : ∃ p : Nat, z % (st.1.1 3 : Int) = p := ⟨(z % (st.1.1 3 : Int)).toNat, by omega⟩
    have hpn : p < st.1.1 3 := by omega
    have hs := ok.1.1.2.2.2.2.2.1 p hpn
    obtain ⟨l, hl⟩ : ∃ l : Nat, st.1.2 12 p = l := ⟨(st.1.2 12 p).toNat, by omega⟩
    have hln : l < st.1.1 1 := by omega
    obtain ⟨u, o, u0, u1⟩ := R.2.2.2.2.2.1 p hpn
    obtain ⟨g, a, g0, g1, g2⟩ := R.2.2.2.2.1 l hln
    have h7 := ok.1.1.2.2.1 l hln
    have e6 : iI z - iI z / iI (st.1.1 3 : Int) * iI (st.1.1 3 : Int) = iI p := by rw [xI_rn (by omega) (by omega) (by omega) (by omega), hp]
    have e7 : ¬ iI (st.1.1 3 : Int) = 0 := by rw [xI_0, xI_eq (by omega) (by omega) (by omega) (by omega)]; omega
    have e9 : iI (bI (st.1.1 3 = 0)) = 0 := by
      unfold bI
      rw [if_neg h0]
      rfl
    have hu : u 0 = iI l := by rw [u0, hl]
    by_cases h3 : st.1.2 7 l = 3
    · refine ⟨(iI 1, h, d), st, ?_, one_n0, B0, Hol.rf⟩
      rw [fr_at R.1 rfl, Option.bind_some, rk_at R.scr.1, Option.bind_some, empty_at R.scr, Option.bind_some, if_pos e9, Option.bind_some, rk_at R.scr.1, Option.bind_some, size_at R.scr, Option.bind_some, if_neg e7, fr_at R.1 rfl, Option.bind_some, Option.bind_some, rk_at R.scr.1, Option.bind_some, e6, get_at R.scr hpn, Option.bind_some, ck_at o, Option.bind_some, li0 o rfl rfl, Option.bind_some, hu, rk_at R.let.1, Option.bind_some, get_at R.let hln, Option.bind_some, ck_at a, Option.bind_some, li2 a rfl rfl, Option.bind_some, g2, h3, if_pos rfl]
    · obtain ⟨h1, q1, C1, -⟩ := cl_mend ok C (i := (p : Int)) (by omega)
      have e1 : oMe st p = .inl (iI ((st.1.1 3 - 1 : Nat) : Int)) := by
        unfold oMe
        rw [if_pos (by omega), Int.toNat_natCast, hl, Int.toNat_natCast, if_pos (by omega)]
      have e3 : (sMe st p).1 = meV st.1 p := by
        unfold sMe
        rw [Int.toNat_natCast, hl, Int.toNat_natCast, if_pos ⟨by omega, by omega⟩]
        rfl
      have R1 := R.let2 (k := l) hln (x := st.1.2 7 l + 1) a ⟨g0, g1⟩
      obtain ⟨d2, M2, E2, F2, q, p2, R2, H2⟩ := R1.rem (X := X) (k := p) hpn
      have H1 : Hol 0 d (dm_se d (F 2 l) (.inr (.inl (0, 3, upd g 2 (iI (st.1.2 7 l + 1)))))) := Hol.ar a
      have H3 := H1.tr H2
      have e4 : meV st.1 p = dropS (pu st.1 7 l (st.1.2 7 l + 1)) p := by
        unfold meV
        rw [hl, Int.toNat_natCast]
      refine ⟨(iI 1, h1, d2), sMe st p, ?_, one_n0, ⟨sMe_ok ok, C1, ?_, H3.full hf, M2, E2, F2, ?_⟩, H3⟩
      · rw [fr_at R.1 rfl, Option.bind_some, rk_at R.scr.1, Option.bind_some, empty_at R.scr, Option.bind_some, if_pos e9, Option.bind_some, rk_at R.scr.1, Option.bind_some, size_at R.scr, Option.bind_some, if_neg e7, fr_at R.1 rfl, Option.bind_some, Option.bind_some, rk_at R.scr.1, Option.bind_some, e6, get_at R.scr hpn, Option.bind_some, ck_at o, Option.bind_some, li0 o rfl rfl, Option.bind_some, hu, rk_at R.let.1, Option.bind_some, get_at R.let hln, Option.bind_some, ck_at a, Option.bind_some, li2 a rfl rfl, Option.bind_some, g2, if_neg (by rw [xI_eq (by omega) (by omega) (by omega) (by omega)]; exact h3), Option.bind_some, iI_a, wi2 a rfl rfl, Option.bind_some, fr_at R1.1 rfl, Option.bind_some, rk_at R1.scr.1, Option.bind_some, p2, Option.bind_some]
        dsimp only
        rw [q1, dm_cl_of (H3.full hf), Option.bind_some]
        dsimp only
        rw [e1]
        show (some (iI ((st.1.1 3 - 1 : Nat) : Int))).bind _ = _
        rw [Option.bind_some, fr_at R2.1 rfl, Option.bind_some, rk_at R2.scr.1, Option.bind_some, size_at R2.scr, Option.bind_some]
        exact if_pos rfl
      · rw [e3]
        exact meV_I I hpn
      · rw [e3, e4]
        exact R2
end ACW
