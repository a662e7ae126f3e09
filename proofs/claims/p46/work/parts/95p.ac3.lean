section ACV
variable {X : dm_X} {d : dm_D} {h : am_H} {w : Nat} {tx : am_v} {N : Nat → Nat} {st : St}
theorem act3 (B : Both w tx N h d st) {z : Int} (hz : 0 ≤ z ∧ z < 400000) : ActOk w tx N 0 d ((dm_fr d (.inl 0, w) 12 6).bind (fun w1 => (dm_rk d w1 16).bind (fun u1 => (F_Jx4a65c_isEmpty_aae02 X w1 d).bind (fun a3 => if a3 = 0 then ((dm_fr d (.inl 0, w) 12 6).bind (fun w2 => (dm_fr d (.inl 0, w) 12 6).bind (fun w3 => (dm_rk d w3 16).bind (fun u2 => (F_Jx4a65c_size_8abf5 X w3 d).bind (fun a4 => if a4 = 0 then none else ((dm_rk d w2 16).bind (fun u3 => (F_Jx4a65c_get_915e3 X w2 (iI z - iI z / a4 * a4) d).bind (fun a5 => (dm_ck d a5).bind (fun u4 => (dm_li X d a5 (iI (0))).bind (fun a6 => if (iI (8)) = 0 then none else (if (iI (99)) = 0 then none else ((dm_wi d a5 0 (iI (0)) ((iI (1)) + ((iI z / (iI (8))) - (iI z / (iI (8))) / (iI (99)) * (iI (99))))).bind (fun d1 => (dm_fr d1 (.inl 0, w) 12 6).bind (fun w4 => (dm_rk d1 w4 16).bind (fun u5 => (F_Jx4a65c_size_8abf5 X w4 d1).bind (fun a7 => if a7 = 0 then none else ((dm_li X d1 a5 (iI (0))).bind (fun a8 => (dm_cl d1 (f_X11_setRadius (iI z - iI z / a7 * a7) a8 h)).bind (fun a9 => (dm_v a9.1).bind (fun a10 => if a10 = a6 then (some ((iI (1)), a9.2, d1)) else (some ((iI (0)), a9.2, d1)))))))))))))))))))))) else (some ((iI (1)), h, d)))))) := by
  have B0 := B
  obtain ⟨ok, C, I, hf, M, E, F, R⟩ := B
  have h8 := ok.1.1.1.1
  by_cases h0 : st.1.1 0 = 0
  · refine ⟨(iI 1, h, d), st, ?_, one_n0, B0, Hol.rf⟩
    rw [fr_at R.1 rfl, Option.bind_some, rk_at R.arc.1, Option.bind_some, empty_at R.arc, Option.bind_some, xI_0, if_bI0, if_pos h0]
  · have hn0 : (0 : Int) < (st.1.1 0 : Int) := by omega
    have hm1 := Int.emod_nonneg z (show (st.1.1 0 : Int) ≠ 0 by omega)
    have hm2 := Int.emod_lt_of_pos z hn0
    have hm3 := Int.emod_nonneg (z / 8) (show (99 : Int) ≠ 0 by omega)
    have hm4 := Int.emod_lt_of_pos (z / 8) (show (0 : Int) < 99 by omega)
    obtain ⟨p, hp⟩ : ∃ p : Nat, z % (st.1.1 0 : Int) = p := ⟨(z % (st.1.1 0 : Int)).toNat, by omega⟩
    have hpn : p < st.1.1 0 := by omega
    obtain ⟨x, hx⟩ : ∃ x : Int, 1 + z / 8 % 99 = x := ⟨_, rfl⟩
    have hx2 : 1 ≤ x ∧ x ≤ 99 := by omega
    obtain ⟨u, o, u0, u1, u2, u3⟩ := R.2.2.2.1 p hpn
    obtain ⟨h1, q1, C1, -⟩ := cl_setRadius ok C (i := (p : Int)) (n := x) (by omega) (by omega)
    have e1 : oSr st p x = .inl (iI (st.1.2 1 p)) := by
      unfold oSr
      rw [if_pos (by omega), if_pos (by omega)]
      rfl
    have e3 : (sSr st p x).1 = pu st.1 1 p x := by
      unfold sSr
      rw [if_pos (by omega)]
      rfl
    have R1 := R.rad (k := p) hpn (x := x) o ⟨u1, u2, u3⟩
    have H1 : Hol 0 d (dm_se d (F 1 p) (.inr (.inl (0, 4, upd u 0 (iI x))))) := Hol.ar o
    have e5 : iI z / iI 8 = iI (z / 8) := xI_dn (by omega) (by omega) (by omega) (by omega)
    have e6 : iI z - iI z / iI (st.1.1 0 : Int) * iI (st.1.1 0 : Int) = iI p := by rw [xI_rn (by omega) (by omega) (by omega) (by omega), hp]
    have e7 : ¬ iI (st.1.1 0 : Int) = 0 := by rw [xI_0, xI_eq (by omega) (by omega) (by omega) (by omega)]; omega
    refine ⟨(iI 1, h1, dm_se d (F 1 p) (.inr (.inl (0, 4, upd u 0 (iI x))))), sSr st p x, ?_, one_n0, ⟨sSr_ok ok, C1, ?_, H1.full hf, M, E, F, ?_⟩, H1⟩
    · rw [fr_at R.1 rfl, Option.bind_some, rk_at R.arc.1, Option.bind_some, empty_at R.arc, Option.bind_some]
      have e9 : iI (bI (st.1.1 0 = 0)) = 0 := by
        unfold bI
        rw [if_neg h0]
        rfl
      rw [if_pos e9, Option.bind_some, Option.bind_some, rk_at R.arc.1, Option.bind_some, size_at R.arc, Option.bind_some, if_neg e7, Option.bind_some, e6, get_at R.arc hpn, Option.bind_some, ck_at o, Option.bind_some, li0 o rfl rfl, Option.bind_some, u0, if_neg (by decide), if_neg (by decide), e5, xI_rn (by omega) (by omega) (by omega) (by omega), iI_a, hx, wi0 o rfl rfl, Option.bind_some, fr_at R1.1 rfl, Option.bind_some, rk_at R1.arc.1, Option.bind_some, size_at R1.arc, Option.bind_some]
      show (if iI (st.1.1 0 : Int) = 0 then none else _) = _
      rw [if_neg e7, li0 (dAr.se o.1) rfl rfl, Option.bind_some, show upd u 0 (iI x) 0 = iI x from if_pos rfl]
      show ((dm_cl _ (f_X11_setRadius (iI z - iI z / iI (st.1.1 0 : Int) * iI (st.1.1 0 : Int)) (iI x) h)).bind _) = _
      rw [e6, q1, dm_cl_of (H1.full hf), Option.bind_some]
      dsimp only
      rw [e1]
      show (some (iI (st.1.2 1 p))).bind _ = _
      rw [Option.bind_some, if_pos rfl]
    · rw [e3]
      exact I.eq rfl rfl rfl rfl
    · rw [e3]
      exact R1
end ACV
