/-! the start: all that stays of it -/
section STE
variable {s : State} {b : Nat}
theorem st_C (htg : ∀ w ∈ am_gT, w.before #[Value.ref b] s = true) (ci : Nat) : ∃ q : ClassId × (Nat → Nat), ∀ r : vw_C, vwCl[ci]? = some r → u_Kn s r.1 r.2.1 r.2.2 q.1 q.2 := by
  match ci with
  | 0 =>
    obtain ⟨cC, iS, h⟩ := u_known (C := RX0) (T := TX0) (N := 5) (n := 5) htg am_in0 (htg _ bq_n0)
    exact ⟨(cC, iS), fun r hr => by cases hr; exact h⟩
  | 1 =>
    obtain ⟨cC, iS, h⟩ := u_known (C := RX1) (T := TX1) (N := 4) (n := 4) htg am_in1 (htg _ bq_n1)
    exact ⟨(cC, iS), fun r hr => by cases hr; exact h⟩
  | 2 =>
    obtain ⟨cC, iS, h⟩ := u_known (C := RX2) (T := TX2) (N := 5) (n := 5) htg am_in2 (htg _ bq_n2)
    exact ⟨(cC, iS), fun r hr => by cases hr; exact h⟩
  | 3 =>
    obtain ⟨cC, iS, h⟩ := u_known (C := RX3) (T := TX3) (N := 5) (n := 5) htg am_in3 (htg _ bq_n3)
    exact ⟨(cC, iS), fun r hr => by cases hr; exact h⟩
  | 4 =>
    obtain ⟨cC, iS, h⟩ := u_known (C := RX4) (T := TX4) (N := 5) (n := 5) htg am_in4 (htg _ bq_n4)
    exact ⟨(cC, iS), fun r hr => by cases hr; exact h⟩
  | 5 =>
    obtain ⟨cC, iS, h⟩ := u_known (C := RX5) (T := TX5) (N := 6) (n := 6) htg am_in5 (htg _ bq_n5)
    exact ⟨(cC, iS), fun r hr => by cases hr; exact h⟩
  | 6 =>
    obtain ⟨cC, iS, h⟩ := u_known (C := RX6) (T := TX6) (N := 2) (n := 2) htg am_in6 (htg _ bq_n6)
    exact ⟨(cC, iS), fun r hr => by cases hr; exact h⟩
  | 7 =>
    obtain ⟨cC, iS, h⟩ := u_known (C := RX7) (T := TX7) (N := 3) (n := 3) htg am_in7 (htg _ bq_n7)
    exact ⟨(cC, iS), fun r hr => by cases hr; exact h⟩
  | 8 =>
    obtain ⟨cC, iS, h⟩ := u_known (C := RX8) (T := TX8) (N := 7) (n := 7) htg am_in8 (htg _ bq_n8)
    exact ⟨(cC, iS), fun r hr => by cases hr; exact h⟩
  | 9 =>
    obtain ⟨cC, iS, h⟩ := u_known (C := RX9) (T := TX9) (N := 3) (n := 3) htg am_in9 (htg _ bq_n9)
    exact ⟨(cC, iS), fun r hr => by cases hr; exact h⟩
  | 10 =>
    obtain ⟨cC, iS, h⟩ := u_known (C := RX10) (T := TX10) (N := 8) (n := 8) htg am_in10 (htg _ bq_n10)
    exact ⟨(cC, iS), fun r hr => by cases hr; exact h⟩
  | 11 =>
    obtain ⟨cC, iS, h⟩ := u_known (C := RX11) (T := TX11) (N := 13) (n := 13) htg am_in11 (htg _ bq_n11)
    exact ⟨(cC, iS), fun r hr => by cases hr; exact h⟩
  | 12 =>
    obtain ⟨cC, iS, h⟩ := u_known (C := RX12) (T := TX12) (N := 37) (n := 37) htg am_in12 (htg _ bq_n12)
    exact ⟨(cC, iS), fun r hr => by cases hr; exact h⟩
  | n + 13 => exact ⟨(0, fun _ => 0), fun r h => by simp [vwCl] at h⟩
theorem st_K (hts : ∀ w ∈ lw_tbl, w.before #[Value.ref b] s = true) : ∃ (D : va_G) (cA : Nat → ClassId), va_K D vwCl (am_ty cA) s := by
  have htg : ∀ w ∈ am_gT, w.before #[Value.ref b] s = true := fun w hw => hts w (List.mem_filter.mp hw).1
  obtain ⟨f, hf⟩ := Classical.axiomOfChoice (st_C htg)
  obtain ⟨c0, k0, m0, f0, g0, i0⟩ := Cond.arrayClass_spec (htg _ bq_a_int)
  obtain ⟨c1, k1, m1, f1, g1, i1⟩ := Cond.arrayClass_spec (htg _ bq_a_byte)
  obtain ⟨c2, k2, m2, f2, g2, i2⟩ := Cond.arrayClass_spec (htg _ bq_a_boolean)
  obtain ⟨c3, k3, m3, f3, g3, i3⟩ := Cond.arrayClass_spec (htg _ bq_a_long)
  obtain ⟨m4, c4, k4, e4, d4, g4, i4, f4⟩ := Cond.arrayOver_spec (hts _ bq_ao)
  refine ⟨(fun k => (f k).1, fun k => (f k).2), fun k => match k with | 0 => c0 | 1 => c1 | 2 => c2 | 3 => c3 | _ => c4, fun c q hq => hf c q hq, fun k q hq => ?_⟩
  match k, hq with
  | 0, hq => cases hq; exact ⟨fun n z => ⟨fun k h => (by cases h), k0, g0, m0, i0⟩, f0⟩
  | 1, hq => cases hq; exact ⟨fun n z => ⟨fun k h => (by cases h), k1, g1, m1, i1⟩, f1⟩
  | 2, hq => cases hq; exact ⟨fun n z => ⟨fun k h => (by cases h), k2, g2, m2, i2⟩, f2⟩
  | 3, hq => cases hq; exact ⟨fun n z => ⟨fun k h => (by cases h), k3, g3, m3, i3⟩, f3⟩
  | 4, hq => cases hq; exact ⟨fun n z => ⟨fun k h => (by cases h), k4, g4, m4, i4⟩, k4, m4, g4, i4, e4, f4⟩
  | n + 5, hq => cases hq
theorem st_E (hts : ∀ w ∈ lw_tbl, w.before #[Value.ref b] s = true) (hs : ∀ w ∈ flatC gvT, w.before #[Value.ref b] s = true) : ∃ (D : va_G) (cA : Nat → ClassId) (sa sb : Nat → Nat), ∀ ad : am_G → Nat → Nat, ad (.inl 2) = sa → ad (.inl 3) = sb → am_E s.heap.size ad D cA s := by
  have hA : ∀ a : Nat, a < s.heap.size → ¬ (fun q => s.heap.size ≤ q) a := fun a h => Nat.not_le.mpr h
  obtain ⟨D, cA, hK⟩ := st_K hts
  obtain ⟨sa, sb, hS, hv⟩ := st_str hs
  refine ⟨D, cA, sa, sb, fun ad ha hb => ⟨hK, fun w hw => ?_, Nat.le_refl _, ?_, ?_, ?_, ?_, fun q hq => ?_, fun q hq => ?_, fun w hw => ?_, fun i j hi hj hn => ?_, ?_⟩⟩
  · have h2 : am_nest w = true := (List.mem_filter.mp hw).2
    exact va_Nw.of (by cases w <;> first | rfl | exact absurd h2 (by simp [am_nest])) (hts w (List.mem_filter.mp hw).1)
  · exact vx_Zqof (hts (.laysStatic Bundle.tN "UNASSIGNED_STACK" Bundle.steD) (by decide +kernel)) (hts (.initialized Bundle.tN) (by decide +kernel)) (hs (.isRef (.static Bundle.tN "UNASSIGNED_STACK" Bundle.steD)) (by decide +kernel)) hA
  · exact vx_Zqof (hts (.laysStatic Bundle.tN "SUPPRESSED_SENTINEL" Bundle.listD) (by decide +kernel)) (hts (.initialized Bundle.tN) (by decide +kernel)) (hs (.isRef (.static Bundle.tN "SUPPRESSED_SENTINEL" Bundle.listD)) (by decide +kernel)) hA
  · rw [ha, hb]
    exact hS
  · exact va_Zof (hts (.laysStatic "java/lang/String" "COMPACT_STRINGS" "Z") (by decide +kernel)) (hts (.initialized "java/lang/String") (by decide +kernel)) (va_eqi (hs (.eq (.static "java/lang/String" "COMPACT_STRINGS" "Z") (.int 1)) (by decide +kernel))) hA
  · rw [ha]
    have h := List.all_eq_true.mp st_in q hq
    rw [Bool.and_eq_true] at h
    have h1 := hts _ (of_decide_eq_true h.1)
    have h4 : q.2.2.2 < 15 := by
      have : (am_sT.all (fun q => decide (q.2.2.2 < 15))) = true := by decide +kernel
      exact of_decide_eq_true (List.all_eq_true.mp this q hq)
    rcases of_decide_eq_true h.2 with h2 | ⟨h2, h3, h5⟩
    · have := hv _ h4
      rw [h2] at this
      exact vk_R.of h1 this
    · have := hv 6 (by omega)
      rw [stm_6] at this
      have h6 := va_eqR (hs _ st_96) this
      rw [h2, h3] at h1
      rw [h2, h3, h5]
      exact vk_R.of h1 h6
  · have h := List.all_eq_true.mp xt_in q hq
    rw [Bool.and_eq_true] at h
    obtain ⟨a, _, _, _, h1, -⟩ := Cond.exactly_spec (hs _ (of_decide_eq_true h.1))
    exact ⟨a, vk_R.of (hts _ (of_decide_eq_true h.2)) h1⟩
  · have h2 : am_decl w = true := (List.mem_filter.mp hw).2
    exact va_Nw.of (by cases w <;> first | rfl | exact absurd h2 (by simp [am_decl])) (hts w (List.mem_filter.mp hw).1)
  · have h := List.all_eq_true.mp (List.all_eq_true.mp nc_in i (List.mem_range.mpr hi)) j (List.mem_range.mpr hj)
    rw [Bool.or_eq_true] at h
    rcases h with h | h
    · exact absurd (beq_iff_eq.mp h) hn
    · exact va_Nc.of (hs _ (of_decide_eq_true h))
  · exact va_Zqof (hts (.laysStatic "jdk/internal/util/Preconditions" "SIOOBE_FORMATTER" "Ljava/util/function/BiFunction;") (by decide +kernel)) (hts (.initialized "jdk/internal/util/Preconditions") (by decide +kernel)) (hs (.isRef (.static "jdk/internal/util/Preconditions" "SIOOBE_FORMATTER" "Ljava/util/function/BiFunction;")) (by decide +kernel)) hA
end STE
