section ACU
variable {X : dm_X} {d : dm_D} {h : am_H} {w : Nat} {tx : am_v} {N : Nat → Nat} {st : St}
theorem act2 (B : Both w tx N h d st) {z : Int} (hz : 0 ≤ z ∧ z < 400000) : ActOk w tx N 0 d (if (iI (26)) = 0 then none else ((dm_fr d (.inl 0, w) 12 5).bind (fun w1 => (dm_li X d w1 (iI z - iI z / (iI (26)) * (iI (26)))).bind (fun a3 => (dm_fr d (.inl 0, w) 12 5).bind (fun w2 => if (iI (32)) = 0 then none else (if (iI (12)) = 0 then none else ((dm_wi d w2 0 (iI z - iI z / (iI (26)) * (iI (26))) ((iI (1)) + ((iI z / (iI (32))) - (iI z / (iI (32))) / (iI (12)) * (iI (12))))).bind (fun d1 => (dm_fr d1 (.inl 0, w) 12 5).bind (fun w3 => (dm_li X d1 w3 (iI z - iI z / (iI (26)) * (iI (26)))).bind (fun a4 => (dm_cl d1 (f_X11_setWidth (iI z - iI z / (iI (26)) * (iI (26))) a4 h)).bind (fun a5 => (dm_v a5.1).bind (fun a6 => if a6 = a3 then (some ((iI (1)), a5.2, d1)) else (some ((iI (0)), a5.2, d1)))))))))))))) := by
  obtain ⟨ok, C, I, hf, M, E, F, R⟩ := B
  have hm1 := Int.emod_nonneg z (show (26 : Int) ≠ 0 by omega)
  have hm2 := Int.emod_lt_of_pos z (show (0 : Int) < 26 by omega)
  have hm3 := Int.emod_nonneg (z / 32) (show (12 : Int) ≠ 0 by omega)
  have hm4 := Int.emod_lt_of_pos (z / 32) (show (0 : Int) < 12 by omega)
  obtain ⟨u, o, hu⟩ := R.2.1
  obtain ⟨p, hp⟩ : ∃ p : Nat, z % 26 = p := ⟨(z % 26).toNat, by omega⟩
  have hp26 : p < 26 := by omega
  obtain ⟨x, hx⟩ : ∃ x : Int, 1 + z / 32 % 12 = x := ⟨_, rfl⟩
  have hx2 : 1 ≤ x ∧ x ≤ 12 := by omega
  obtain ⟨h1, q1, C1, -⟩ := cl_setWidth ok C (i := (p : Int)) (n := x) (by omega) (by omega)
  have e1 : oSw st p x = .inl (iI (st.1.2 8 p)) := if_pos (by omega)
  have e3 : (sSw st p x).1 = pu st.1 8 p x := by
    unfold sSw
    rw [if_pos (by omega)]
    rfl
  have R1 := R.wide (k := p) hp26 (x := x) o hu
  have H1 : Hol 0 d (dm_se d (N 0) (.inr (.inl (0, 26, upd u p (iI x))))) := Hol.ar o
  refine ⟨(iI 1, h1, dm_se d (N 0) (.inr (.inl (0, 26, upd u p (iI x))))), sSw st p x, ?_, one_n0, ⟨sSw_ok ok, C1, ?_, H1.full hf, M, E, F, ?_⟩, H1⟩
  · have e5 : iI z / iI 32 = iI (z / 32) := xI_dn (by omega) (by omega) (by omega) (by omega)
    rw [if_neg (by decide), xI_rn (by omega) (by omega) (by omega) (by omega), hp, fr_at R.1 rfl, Option.bind_some, lik o p hp26 (by omega), Option.bind_some, hu p hp26, Option.bind_some, if_neg (by decide), if_neg (by decide), e5, xI_rn (by omega) (by omega) (by omega) (by omega), iI_a, hx, wi_at o (ib1 hp26 (by omega)), iI_cl (by omega), Option.bind_some, fr_at R1.1 rfl, Option.bind_some, lik (dAr.se o.1) p hp26 (by omega), Option.bind_some, show upd u p (iI x) p = iI x from if_pos rfl, q1, dm_cl_of (H1.full hf), Option.bind_some]
    dsimp only
    rw [e1]
    show (some (iI (st.1.2 8 p))).bind _ = _
    rw [Option.bind_some, if_pos rfl]
  · rw [e3]
    exact I.eq rfl rfl rfl rfl
  · rw [e3]
    exact R1
end ACU
