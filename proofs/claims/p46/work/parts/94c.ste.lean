/-! the start: all that stays of it -/
section STE
variable {s : State} {b : Nat}
theorem st_C (htg : ∀ w ∈ am_gT, w.before #[Value.ref b] s = true) (ci : Nat) : ∃ q : ClassId × (Nat → Nat), ∀ r : vw_C, vwCl[ci]? = some r → u_Kn s r.1 r.2.1 r.2.2 q.1 q.2 := by
  match ci with
  | 0 =>
    obtain ⟨cC, iS, h⟩ := u_known (C := RX0) (T := TX0) (N := 5) (n := 5) htg am_in0 (htg _ bq_n0)
    exact ⟨(cC, iS), fun r hr => by cases hr; exact h⟩
  | 1 =>
    obtain ⟨cC, iS, h⟩ := u_known (C := RX1) (T := TX1) (N := 4) (n := 4) htg am_in1 (htg _ bq_n1)
    exact ⟨(cC, iS), fun r hr => by cases hr; exact h⟩
  | 2 =>
    obtain ⟨cC, iS, h⟩ := u_known (C := RX2) (T := TX2) (N := 5) (n := 5) htg am_in2 (htg _ bq_n2)
    exact ⟨(cC, iS), fun r hr => by cases hr; exact h⟩
  | 3 =>
    obtain ⟨cC, iS, h⟩ := u_known (C := RX3) (T := TX3) (N := 5) (n := 5) htg am_in3 (htg _ bq_n3)
    exact ⟨(cC, iS), fun r hr => by cases hr; exact h⟩
  | 4 =>
    obtain ⟨cC, iS, h⟩ := u_known (C := RX4) (T := TX4) (N := 5) (n := 5) htg am_in4 (htg _ bq_n4)
    exact ⟨(cC, iS), fun r hr => by cases hr; exact h⟩
  | 5 =>
    obtain ⟨cC, iS, h⟩ := u_known (C := RX5) (T := TX5) (N := 6) (n := 6) htg am_in5 (htg _ bq_n5)
    exact ⟨(cC, iS), fun r hr => by cases hr; exact h⟩
  | 6 =>
    obtain ⟨cC, iS, h⟩ := u_known (C := RX6) (T := TX6) (N := 2) (n := 2) htg am_in6 (htg _ bq_n6)
    exact ⟨(cC, iS), fun r hr => by cases hr; exact h⟩
  | 7 =>
    obtain ⟨cC, iS, h⟩ := u_known (C := RX7) (T := TX7) (N := 3) (n := 3) htg am_in7 (htg _ bq_n7)
    exact ⟨(cC, iS), fun r hr => by cases hr; exact h⟩
  | 8 =>
    obtain ⟨cC, iS, h⟩ := u_known (C := RX8) (T := TX8) (N := 7) (n := 7) htg am_in8 (htg _ bq_n8)
    exact ⟨(cC, iS), fun r hr => by cases hr; exact h⟩
  | 9 =>
    obtain ⟨cC, iS, h⟩ := u_known (C := RX9) (T := TX9) (N := 3) (n := 3) htg am_in9 (htg _ bq_n9)
    exact ⟨(cC, iS), fun r hr => by cases hr; exact h⟩
  | 10 =>
    obtain ⟨cC, iS, h⟩ := u_known (C := RX10) (T := TX10) (N := 8) (n := 8) htg am_in10 (htg _ bq_n10)
    exact ⟨(cC, iS), fun r hr => by cases hr; exact h⟩
  | 11 =>
    obtain ⟨cC, iS, h⟩ := u_known (C := RX11) (T := TX11) (N := 13) (n := 13) htg am_in11 (htg _ bq_n11)
    exact ⟨(cC, iS), fun r hr => by cases hr; exact h⟩
  | 12 =>
    obtain ⟨cC, iS, h⟩ := u_known (C := RX12) (T := TX12) (N := 11) (n := 11) htg am_in12 (htg _ nw_X12_8.2.1)
    exact ⟨(cC, iS), fun r hr => by cases hr; exact h⟩
  | 13 =>
    obtain ⟨cC, iS, h⟩ := u_known (C := RJ0) (T := TJ0) (N := 4) (n := 4) htg am_in13 (htg _ nw_J4_18.2.1)
    exact ⟨(cC, iS), fun r hr => by cases hr; exact h⟩
  | 14 =>
    obtain ⟨cC, iS, h⟩ := u_known (C := RJ4) (T := TJ4) (N := 4) (n := 4) htg am_in14 (htg _ nw_X12_46.2.1)
    exact ⟨(cC, iS), fun r hr => by cases hr; exact h⟩
  | 15 =>
    obtain ⟨cC, iS, h⟩ := u_known (C := RJx35411) (T := TJx35411) (N := 4) (n := 4) htg am_in15 (htg _ nw_Jx4a65c_267.2.1)
    exact ⟨(cC, iS), fun r hr => by cases hr; exact h⟩
  | 16 =>
    obtain ⟨cC, iS, h⟩ := u_known (C := RJx4a65c) (T := TJx4a65c) (N := 3) (n := 3) htg am_in16 (htg _ nw_X12_23.2.1)
    exact ⟨(cC, iS), fun r hr => by cases hr; exact h⟩
  | n + 17 => exact ⟨(0, fun _ => 0), fun r h => by simp [vwCl] at h⟩
theorem bq_ab : Cond.arrayOver (.object "java/lang/Object") ∈ lw_tbl := by decide +kernel
theorem st_K (hts : ∀ w ∈ lw_tbl, w.before #[Value.ref b] s = true) : ∃ (D : va_G) (cA : Nat → ClassId), va_K D vwCl (am_ty cA) s := by
  have htg : ∀ w ∈ am_gT, w.before #[Value.ref b] s = true := fun w hw => hts w (List.mem_filter.mp hw).1
  obtain ⟨f, hf⟩ := Classical.axiomOfChoice (st_C htg)
  obtain ⟨c0, k0, m0, f0, g0, i0⟩ := Cond.arrayClass_spec (htg _ bq_a_int)
  obtain ⟨c1, k1, m1, f1, g1, i1⟩ := Cond.arrayClass_spec (htg _ bq_a_byte)
  obtain ⟨c2, k2, m2, f2, g2, i2⟩ := Cond.arrayClass_spec (htg _ bq_a_boolean)
  obtain ⟨m3, c3, k3, e3, d3, g3, i3, f3⟩ := Cond.arrayOver_spec (hts _ bq_ab)
  obtain ⟨m4, c4, k4, e4, d4, g4, i4, f4⟩ := Cond.arrayOver_spec (hts _ bq_ao)
  refine ⟨(fun k => (f k).1, fun k => (f k).2), fun k => match k with | 0 => c0 | 1 => c1 | 2 => c2 | 3 => c3 | _ => c4, fun c q hq => hf c q hq, fun k q hq => ?_⟩
  match k, hq with
  | 0, hq => cases hq; exact ⟨fun n z => ⟨fun k h => (by cases h), k0, g0, m0, i0⟩, f0⟩
  | 1, hq => cases hq; exact ⟨fun n z => ⟨fun k h => (by cases h), k1, g1, m1, i1⟩, f1⟩
  | 2, hq => cases hq; exact ⟨fun n z => ⟨fun k h => (by cases h), k2, g2, m2, i2⟩, f2⟩
  | 3, hq => cases hq; exact ⟨fun n z => ⟨fun k h => (by cases h), k3, g3, m3, i3⟩, k3, m3, g3, i3, e3, f3⟩
  | 4, hq => cases hq; exact ⟨fun n z => ⟨fun k h => (by cases h), k4, g4, m4, i4⟩, k4, m4, g4, i4, e4, f4⟩
  | n + 5, hq => cases hq
theorem fT_in : (dm_fT.all (fun q => decide (Cond.declares q.2.1 ∈ lw_tbl) && decide (Cond.interfaceMethod q.2.1.cls q.2.1.cls q.2.1.name q.2.1.desc ∈ lw_tbl) && decide (Cond.publicMethod q.2.2 ∈ lw_tbl) && decide (Cond.unhidden q.1 q.2.1.name q.2.1.desc ∈ lw_tbl) && decide (Cond.castable q.1 q.2.1.cls ∈ lw_tbl))) = true := by decide +kernel
theorem pT_in : (dm_pT.all (fun y => decide (Cond.privateMethod y ∈ lw_tbl) && decide (Cond.instanceMethod y ∈ lw_tbl) && decide (y.cls = RJ5))) = true := by decide +kernel
/-- the addresses -/
def ad00 (b n0 : Nat) (sa sb z : Nat → Nat) : am_G → Nat → Nat := fun g o => match g with
  | .inl 0 => b + o
  | .inl 2 => sa o
  | .inl 3 => sb o
  | .inl 4 => z o
  | g => b + n0 + offR (am_rk g o)
theorem ad00_ad {b n0 : Nat} {sa sb z : Nat → Nat} : dm_ad (ad00 b n0 sa sb z) := fun i => (by show b + i = b + 0 + i; omega)
theorem ad00_at {b n0 : Nat} {sa sb z : Nat → Nat} : ad_at (ad00 b n0 sa sb z) (ad00 b n0 sa sb z (.inl 0) n0) := fun g o h => by
  match g, h with
  | .inl 0, h => exact h.elim
  | .inl 1, h => rfl
  | .inl (n + 2), h => exact h.elim
  | .inr k, h => rfl
theorem st_E {L : Nat} {xs : Nat → Int32} (hts : ∀ w ∈ lw_tbl, w.before #[Value.ref b] s = true) (hs : ∀ w ∈ flatC gvT, w.before #[Value.ref b] s = true) (hX : va_X b L xs s s.heap) (hbl : b < s.heap.size) : ∃ (D : va_G) (cA : Nat → ClassId) (sa sb z : Nat → Nat), z 3 = b ∧ ∀ n0, dm_E (L, xs) (ad00 s.heap.size n0 sa sb z) D cA s := by
  have hA : ∀ a : Nat, a < s.heap.size → ¬ (fun q => s.heap.size ≤ q) a := fun a h => Nat.not_le.mpr h
  obtain ⟨D, cA, hK⟩ := st_K hts
  obtain ⟨sa, sb, hS, hv⟩ := st_str hs
  obtain ⟨z1, hz1⟩ := st_dig (A := fun q => s.heap.size ≤ q) dg1_in hts hs (by decide +kernel) (by decide +kernel) hA
  obtain ⟨z2, hz2⟩ := st_dig (A := fun q => s.heap.size ≤ q) dg2_in hts hs (by decide +kernel) (by decide +kernel) hA
  obtain ⟨z0, h0, hz0⟩ := va_Tof (args := #[Value.ref b]) (s := s) (N := 0) (f := fun _ => .null) (tm := .static "java/util/ArrayList" "DEFAULTCAPACITY_EMPTY_ELEMENTDATA" "[Ljava/lang/Object;") (ty := .object "java/lang/Object") (A := fun q => s.heap.size ≤ q) (by decide) (hs _ (by decide +kernel)) (va_eqn (hs _ (by decide +kernel))) (fun j hj => absurd hj (Nat.not_lt_zero j)) hA
  have hZ0 := va_Zof (hts (.laysStatic "java/util/ArrayList" "DEFAULTCAPACITY_EMPTY_ELEMENTDATA" "[Ljava/lang/Object;") (by decide +kernel)) (hts (.initialized "java/util/ArrayList") (by decide +kernel)) h0 hA
  obtain ⟨mi, hmi⟩ := va_Mi.of (C := "[Ljava/lang/Object;") (hs (.isRef (.mirror "[Ljava/lang/Object;")) (by decide +kernel))
  refine ⟨D, cA, sa, sb, fun j => match j with | 0 => z0 | 1 => z1 | 2 => z2 | 3 => b | _ => mi, rfl, fun n0 => ⟨⟨hK, fun w hw => ?_, fun q hq => hq, hS, ?_, fun q hq => ?_, ?_⟩, ⟨hZ0, hz0⟩, hz1, hz2, ⟨hX, hbl⟩, hmi, fun q hq => ?_, va_Dc.of (hts _ (by decide +kernel)), ⟨va_Nw.of rfl (hts (.castable "[I" "java/lang/Object") (by decide +kernel)), va_Nw.of rfl (hts (.castable "[B" "java/lang/Cloneable") (by decide +kernel))⟩, va_AO.of (hts _ bq_ab), fun y hy => ?_⟩⟩
  · have h2 : am_nest w = true := (List.mem_filter.mp hw).2
    exact va_Nw.of (by cases w <;> first | rfl | exact absurd h2 (by simp [am_nest])) (hts w (List.mem_filter.mp hw).1)
  · exact va_Zof (hts (.laysStatic "java/lang/String" "COMPACT_STRINGS" "Z") (by decide +kernel)) (hts (.initialized "java/lang/String") (by decide +kernel)) (va_eqi (hs (.eq (.static "java/lang/String" "COMPACT_STRINGS" "Z") (.int 1)) (by decide +kernel))) hA
  · have h := List.all_eq_true.mp st_in q hq
    rw [Bool.and_eq_true] at h
    have h1 := hts _ (of_decide_eq_true h.1)
    have h4 : q.2.2.2 < 22 := by
      have : (am_sT.all (fun q => decide (q.2.2.2 < 22))) = true := by decide +kernel
      exact of_decide_eq_true (List.all_eq_true.mp this q hq)
    have h2 := of_decide_eq_true h.2
    have := hv _ h4
    rw [h2] at this
    exact vk_R.of h1 this
  · exact va_Zqof (hts (.laysStatic "jdk/internal/util/Preconditions" "SIOOBE_FORMATTER" "Ljava/util/function/BiFunction;") (by decide +kernel)) (hts (.initialized "jdk/internal/util/Preconditions") (by decide +kernel)) (hs (.isRef (.static "jdk/internal/util/Preconditions" "SIOOBE_FORMATTER" "Ljava/util/function/BiFunction;")) (by decide +kernel)) hA
  · have h := List.all_eq_true.mp fT_in q hq
    simp only [Bool.and_eq_true] at h
    obtain ⟨⟨⟨⟨h1, h2⟩, h3⟩, h4⟩, h5⟩ := h
    exact va_Fw.of (hts _ (of_decide_eq_true h1)) (hts _ (of_decide_eq_true h2)) (hts _ (of_decide_eq_true h3)) (hts _ (of_decide_eq_true h4)) (hts _ (of_decide_eq_true h5))
  · have h := List.all_eq_true.mp pT_in y hy
    simp only [Bool.and_eq_true] at h
    obtain ⟨⟨h1, h2⟩, h3⟩ := h
    exact va_any rfl (dm_selp (args := #[Value.ref b]) (of_decide_eq_true h3) (hts _ (List.mem_filter.mp gv_w).1) (hts _ (of_decide_eq_true h1)) (hts _ (of_decide_eq_true h2)))
end STE
