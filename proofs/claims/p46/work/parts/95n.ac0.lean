/-! the law's changes, one by one -/
/-- scratches lie on engraved letters, they reach whole hundreds -/
def Inv (v : pv_T) : Prop := ∀ s, s < v.1 3 → v.2 6 (v.2 12 s).toNat = 1 ∧ v.2 13 s % 100 = 0
theorem Inv.eq {v v' : pv_T} (h : Inv v) (e1 : v'.1 3 = v.1 3) (e6 : v'.2 6 = v.2 6) (e12 : v'.2 12 = v.2 12) (e13 : v'.2 13 = v.2 13) : Inv v' := fun s hs => by
  rw [e1] at hs
  rw [e6, e12, e13]
  exact h s hs
/-- both sides hold st -/
def Both (w : Nat) (tx : am_v) (N : Nat → Nat) (h : am_H) (d : dm_D) (st : St) : Prop := Ok st ∧ ClR h st ∧ Inv st.1 ∧ dm_full d ∧ ∃ M E F, WR d w st.1 tx N M E F
/-- a change of both: the law goes on, both sides hold one state again -/
def ActOk (w : Nat) (tx : am_v) (N : Nat → Nat) (c : Nat) (d : dm_D) (r : Option (Int32 × am_H × dm_D)) : Prop := ∃ a st', r = some a ∧ a.1 ≠ 0 ∧ Both w tx N a.2.1 a.2.2 st' ∧ Hol c d a.2.2
theorem one_n0 : iI 1 ≠ 0 := by decide
section ACT
variable {X : dm_X} {d : dm_D} {h : am_H} {w : Nat} {tx : am_v} {N : Nat → Nat} {st : St}
theorem act0 (B : Both w tx N h d st) {z : Int} (hz : 0 ≤ z ∧ z < 400000) : ActOk w tx N 0 d ((dm_fi d (.inl 0, w) 12 0).bind (fun a3 => if (iI (40)) = 0 then none else ((F_J9_min_7cf53 (iI (99)) ((a3 + (iI (1))) + (iI z - iI z / (iI (40)) * (iI (40))))).bind (fun a4 => (dm_pu d (.inl 0, w) 12 0 (am_i a4)).bind (fun d1 => if (iI (40)) = 0 then none else ((dm_cl d1 (f_X11_sharpen ((iI (1)) + (iI z - iI z / (iI (40)) * (iI (40)))) h)).bind (fun a5 => (dm_v a5.1).bind (fun a6 => (dm_fi d1 (.inl 0, w) 12 0).bind (fun a7 => if a6 = a7 then (some ((iI (1)), a5.2, d1)) else (some ((iI (0)), a5.2, d1))))))))))) := by
  obtain ⟨ok, C, I, hf, M, E, F, R⟩ := B
  have hS := ok.1.1.2.2.2.2.2.2
  have hm1 := Int.emod_nonneg z (show (40 : Int) ≠ 0 by omega)
  have hm2 := Int.emod_lt_of_pos z (show (0 : Int) < 40 by omega)
  obtain ⟨h1, q1, C1, -⟩ := cl_sharpen ok C (n := 1 + z % 40) (by omega)
  have e1 : oSh st (1 + z % 40) = .inl (iI (shV st.1 (1 + z % 40))) := if_pos (by omega)
  have e2 : (if (99 : Int) ≤ st.1.2 0 0 + 1 + z % 40 then (99 : Int) else st.1.2 0 0 + 1 + z % 40) = shV st.1 (1 + z % 40) := by
    unfold shV
    rw [show st.1.2 0 0 + 1 + z % 40 = st.1.2 0 0 + (1 + z % 40) by omega]
  have e3 : (sSh st (1 + z % 40)).1 = pu st.1 0 0 (shV st.1 (1 + z % 40)) := by
    unfold sSh
    rw [if_pos (by omega)]
    rfl
  obtain ⟨d1, p1, R1, H1, -⟩ := R.put (k := 0) (by omega) (shV st.1 (1 + z % 40))
  refine ⟨(iI 1, h1, d1), sSh st (1 + z % 40), ?_, one_n0, ⟨sSh_ok ok, C1, ?_, H1.full hf, M, E, F, ?_⟩, H1⟩
  · rw [fi_at R.1 rfl, Option.bind_some, if_neg (by decide), xI_rn (by omega) (by omega) (by omega) (by omega), iI_a, iI_a, min_J9 (by omega) (by omega) (by omega) (by omega), Option.bind_some, e2, p1, Option.bind_some, iI_a, q1, dm_cl_of (H1.full hf), Option.bind_some]
    dsimp only
    rw [e1, if_neg (by decide)]
    show (some (iI (shV st.1 (1 + z % 40)))).bind _ = _
    rw [Option.bind_some, fi_at R1.1 rfl, Option.bind_some, show (pu st.1 0 0 (shV st.1 (1 + z % 40))).2 0 0 = shV st.1 (1 + z % 40) from pu_s, if_pos rfl]
  · rw [e3]
    exact I.eq rfl rfl rfl rfl
  · rw [e3]
    exact R1
theorem act1 (B : Both w tx N h d st) {z : Int} (hz : 0 ≤ z ∧ z < 400000) : ActOk w tx N 0 d ((dm_fi d (.inl 0, w) 12 1).bind (fun a3 => if (iI (60)) = 0 then none else ((dm_pu d (.inl 0, w) 12 1 (am_i (iI z - iI z / (iI (60)) * (iI (60))))).bind (fun d1 => (dm_fi d1 (.inl 0, w) 12 1).bind (fun a4 => (dm_cl d1 (f_X11_setMargin a4 h)).bind (fun a5 => (dm_v a5.1).bind (fun a6 => if a6 = a3 then (some ((iI (1)), a5.2, d1)) else (some ((iI (0)), a5.2, d1))))))))) := by
  obtain ⟨ok, C, I, hf, M, E, F, R⟩ := B
  have hm1 := Int.emod_nonneg z (show (60 : Int) ≠ 0 by omega)
  have hm2 := Int.emod_lt_of_pos z (show (0 : Int) < 60 by omega)
  obtain ⟨h1, q1, C1, -⟩ := cl_setMargin ok C (n := z % 60) (by omega)
  have e1 : oSm st (z % 60) = .inl (iI (st.1.2 0 1)) := if_pos (by omega)
  have e3 : (sSm st (z % 60)).1 = pu st.1 0 1 (z % 60) := by
    unfold sSm
    rw [if_pos (by omega)]
    rfl
  obtain ⟨d1, p1, R1, H1, -⟩ := R.put (k := 1) (by omega) (z % 60)
  refine ⟨(iI 1, h1, d1), sSm st (z % 60), ?_, one_n0, ⟨sSm_ok ok, C1, ?_, H1.full hf, M, E, F, ?_⟩, H1⟩
  · rw [fi_at R.1 rfl, Option.bind_some, if_neg (by decide), xI_rn (by omega) (by omega) (by omega) (by omega), p1, Option.bind_some, fi_at R1.1 rfl, Option.bind_some, show (pu st.1 0 1 (z % 60)).2 0 1 = z % 60 from pu_s, q1, dm_cl_of (H1.full hf), Option.bind_some]
    dsimp only
    rw [e1]
    show (some (iI (st.1.2 0 1))).bind _ = _
    rw [Option.bind_some, if_pos rfl]
  · rw [e3]
    exact I.eq rfl rfl rfl rfl
  · rw [e3]
    exact R1
end ACT
