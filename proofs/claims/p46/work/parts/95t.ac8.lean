theorem num9 {a b L : Nat} (h1 : a + 8645 ≤ L) (h2 : b ≤ a + 5) : a + 5 ≤ L ∧ b + 8640 ≤ L := by omega
section ACY
variable {X : dm_X} {d : dm_D} {h : am_H} {w : Nat} {tx : am_v} {N : Nat → Nat} {st : St}
theorem act8 (B : Both w tx N h d st) (ha : 0 < st.1.1 0) (h40 : st.1.1 3 ≤ 40) (hb : d.2.1 + 8645 ≤ dm_L) : ActOk w tx N 8645 d ((dm_rk d (.inl 0, w) 12).bind (fun u7 => (F_X12_engraved X (.inl 0, w) d).bind (fun a8 => (dm_fr a8.2 (.inl 0, w) 12 7).bind (fun w6 => (dm_rk a8.2 w6 16).bind (fun u8 => (F_Jx4a65c_size_8abf5 X w6 a8.2).bind (fun a9 => if a8.1 = a9 then (some ((iI (1)), h, a8.2)) else ((dm_cl a8.2 (f_X11_engraveAll h)).bind (fun a10 => (dm_v a10.1).bind (fun a11 => (dm_rk a8.2 (.inl 0, w) 12).bind (fun u9 => (F_X12_engraveAll X (.inl 0, w) (iI (40)) a8.2).bind (fun a12 => if a11 = a12.1 then (some ((iI (1)), a10.2, a12.2)) else (some ((iI (0)), a10.2, a12.2))))))))))))) := by
  obtain ⟨ok, C, I, hf, M, E, F, R⟩ := B
  have h20 := ok.1.1.1.2.1
  have hcn := cN_le (fun j => decide (st.1.2 6 j = 1)) (st.1.1 1)
  obtain ⟨d1, q1, E1⟩ := engraved_ok (X := X) ok.1.1 R (num9 hb (Nat.le_add_right _ _)).1
  have R1 := R.ext E1
  have hf1 := E1.full hf
  have h57 : (5 : Nat) ≤ 8645 := ble rfl
  rw [rk_at R.1, Option.bind_some, q1, Option.bind_some]
  dsimp only
  rw [fr_at R1.1 rfl, Option.bind_some, rk_at R1.let.1, Option.bind_some, size_at R1.let, Option.bind_some]
  by_cases c : cN (fun j => decide (st.1.2 6 j = 1)) (st.1.1 1) = st.1.1 1
  · refine ⟨(iI 1, h, d1), st, ?_, one_n0, ⟨ok, C, I, hf1, M, E, F, R1⟩, E1.hol.le h57⟩
    rw [c, if_pos rfl]
  · have hA : cAll st.1 = true := by
      unfold cAll
      exact decide_eq_true ⟨by omega, ha, h40⟩
    obtain ⟨h1, p1, C1, -⟩ := cl_engraveAll ok C
    have e1 : oEa st = .inl (iI (enA 40 st.1 (st.1.1 1)).1) := by
      unfold oEa
      rw [if_pos hA]
    have e3 : (sEa st).1 = (enA 40 st.1 (st.1.1 1)).2 := by
      unfold sEa
      rw [if_pos hA]
      rfl
    obtain ⟨d2, M2, E2, F2, p2, R2, H2⟩ := engA_ok (X := X) ok.1.1 R1 (num9 hb E1.2.1).2
    refine ⟨(iI 1, h1, d2), sEa st, ?_, one_n0, ⟨sEa_ok ok, C1, ?_, H2.full hf1, M2, E2, F2, ?_⟩, E1.hol.tr H2⟩
    · rw [if_neg (by rw [xI_eq (by omega) (by omega) (by omega) (by omega)]; omega), p1, dm_cl_of hf1, Option.bind_some]
      dsimp only
      rw [e1]
      show (some (iI (enA 40 st.1 (st.1.1 1)).1)).bind _ = _
      rw [Option.bind_some, rk_at R1.1, Option.bind_some, p2, Option.bind_some]
      exact if_pos rfl
    · rw [e3]
      exact enA_I I _
    · rw [e3]
      exact R2
end ACY
