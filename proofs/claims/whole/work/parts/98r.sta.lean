/-! the start: what stays of it -/
section STA
abbrev gvT : Cond := Jvm.Cond.and given_1 narrow_1
def stm (i : Nat) : String × Nat := match am_sT.find? (fun q => q.2.2.2 == i) with
  | some q => (q.1, q.2.1)
  | none => ("", 0)
def stF (t : Term) : Term := .field t "java/lang/String" "value" "[B"
def stw (t : Term) (tx : List Int32) : List Cond := [Cond.exactly t "java/lang/String", Cond.eq (.field t "java/lang/String" "coder" "B") (.int 0), Cond.arrayOf (stF t) .byte, Cond.eq (.length (stF t)) (.int (Int32.ofNat tx.length))] ++ (List.range tx.length).map (fun j => Cond.eq (.elem (stF t) (.int (Int32.ofNat j))) (.int (tx.getD j 0)))
theorem stw_in : ((List.range 15).all (fun i => (stw (.string (stm i).1 (stm i).2) (am_tx i)).all (fun w => decide (w ∈ flatC gvT)))) = true := by decide +kernel
theorem stx_ne : ((List.range 15).all (fun i => (List.range 15).all (fun j => i == j || decide (am_tx i ≠ am_tx j)))) = true := by decide +kernel
theorem stx_len : ((List.range 15).all (fun i => decide ((am_tx i).length < 20))) = true := by decide +kernel
theorem xt_in : (am_xT.all (fun q => decide (Cond.exactly (.string q.1 q.2.1) "java/lang/String" ∈ flatC gvT) && decide (Cond.stringRef q.1 q.2.1 q.2.2 ∈ lw_tbl))) = true := by decide +kernel
theorem st_in : (am_sT.all (fun q => decide (Cond.stringRef q.1 q.2.1 q.2.2.1 ∈ lw_tbl) && decide (stm q.2.2.2 = (q.1, q.2.1) ∨ (q.1 = "CurvedNames$Script" ∧ q.2.1 = 96 ∧ q.2.2.2 = 6)))) = true := by decide +kernel
theorem stm_6 : stm 6 = ("CurvedNames$TextReader", 96) := by decide +kernel
theorem st_96 : Cond.eq (.string "CurvedNames$TextReader" 96) (.string "CurvedNames$Script" 96) ∈ flatC gvT := by decide +kernel
theorem nc_in : ((List.range 3).all (fun i => (List.range 3).all (fun j => i == j || decide (Cond.not (.castable (am_exn i) (am_exn j)) ∈ flatC gvT)))) = true := by decide +kernel
variable {s : State} {b : Nat}
theorem st_str (hs : ∀ w ∈ flatC gvT, w.before #[Value.ref b] s = true) : ∃ sa sb : Nat → Nat, vk_S 15 am_sl am_sb sa sb (fun q => s.heap.size ≤ q) s s.heap ∧ ∀ i, i < 15 → (Term.string (stm i).1 (stm i).2).eval #[Value.ref b] s none [] s = some (.ref (sa i)) := by
  have hA : ∀ a : Nat, a < s.heap.size → ¬ (fun q => s.heap.size ≤ q) a := fun a h => Nat.not_le.mpr h
  have h0 : ∀ i : Nat, ∃ q : Nat × Nat, i < 15 → (Term.string (stm i).1 (stm i).2).eval #[Value.ref b] s none [] s = some (.ref q.1) ∧ va_O "java/lang/String" q.1 (fun q => s.heap.size ≤ q) s s.heap ∧ va_OF "java/lang/String" "coder" "B" (.int 0) q.1 (fun q => s.heap.size ≤ q) s s.heap ∧ va_OF "java/lang/String" "value" "[B" (.ref q.2) q.1 (fun q => s.heap.size ≤ q) s s.heap ∧ va_T .byte q.2 (am_tx i).length (fun j => .int ((am_tx i).getD j 0)) (fun q => s.heap.size ≤ q) s s.heap := by
    intro i
    by_cases hi : i < 15
    · have hw : ∀ w ∈ stw (.string (stm i).1 (stm i).2) (am_tx i), w.before #[Value.ref b] s = true := fun w h => hs w (of_decide_eq_true (List.all_eq_true.mp (List.all_eq_true.mp stw_in i (List.mem_range.mpr hi)) w h))
      have hlen : (am_tx i).length < 20 := of_decide_eq_true (List.all_eq_true.mp stx_len i (List.mem_range.mpr hi))
      obtain ⟨adK, adV, ⟨v1, -⟩, v2⟩ := vk_Sof (args := #[Value.ref b]) (s := s) (N := 1) (tm := fun _ => .string (stm i).1 (stm i).2) (len := [(am_tx i).length]) (byt := [am_tx i]) (A := fun q => s.heap.size ≤ q) (fun k hk => by
          obtain rfl : k = 0 := by omega
          show (am_tx i).length < 2 ^ 31
          omega) (fun k hk => hw _ (by simp [stw])) (fun k hk => hw _ (by simp [stw])) (fun k hk => hw _ (by simp [stw, stF])) (fun k hk => by
          obtain rfl : k = 0 := by omega
          exact hw _ (by simp [stw, stF])) (fun k hk j hj => by
          obtain rfl : k = 0 := by omega
          exact hw _ (List.mem_append_right _ (List.mem_map.mpr ⟨j, List.mem_range.mpr hj, rfl⟩))) (fun i j hi hj h => absurd (by omega : i = j) h) hA
      exact ⟨(adK 0, adV 0), fun _ => ⟨v2 0 (by omega), v1 0 (by omega)⟩⟩
    · exact ⟨(0, 0), fun h => absurd h hi⟩
  obtain ⟨f, hf⟩ := Classical.axiomOfChoice h0
  refine ⟨fun i => (f i).1, fun i => (f i).2, ⟨fun i hi => ?_, fun i j hi hj e => ?_⟩, fun i hi => (hf i hi).1⟩
  · have e1 : am_sl.getD i 0 = (am_tx i).length := by
      unfold am_sl
      rw [List.getD_eq_getElem?_getD, List.getElem?_map, List.getElem?_range hi]
      rfl
    have e2 : am_sb.getD i [] = am_tx i := by
      unfold am_sb
      rw [List.getD_eq_getElem?_getD, List.getElem?_map, List.getElem?_range hi]
      rfl
    rw [e1, e2]
    exact (hf i hi).2
  · obtain ⟨-, -, -, a4, a5⟩ := hf i hi
    obtain ⟨-, -, -, b4, b5⟩ := hf j hj
    have e : (f i).1 = (f j).1 := e
    rw [← e] at b4
    obtain ⟨c1, c2, c3, c4, c5, c6, c7, c8, c9, c10, c11⟩ := a4
    obtain ⟨d1, d2, d3, d4, d5, d6, d7, d8, d9, d10, d11⟩ := b4
    cases c6.symm.trans d6
    cases c8.symm.trans d8
    have ev : (f i).2 = (f j).2 := by
      have := c10.symm.trans d10
      simpa using this
    rw [← ev] at b5
    obtain ⟨g1, g2, g3, g4, g5, g6, g7, g8⟩ := a5
    obtain ⟨k1, k2, k3, k4, k5, k6, k7, k8⟩ := b5
    cases g2.symm.trans k2
    have l1 : (am_tx i).length < 20 := of_decide_eq_true (List.all_eq_true.mp stx_len i (List.mem_range.mpr hi))
    have l2 : (am_tx j).length < 20 := of_decide_eq_true (List.all_eq_true.mp stx_len j (List.mem_range.mpr hj))
    have el : (am_tx i).length = (am_tx j).length := by
      have h1 := g6.symm.trans k6
      have h2 := congrArg Int32.toInt h1
      rw [show Int32.ofNat (am_tx i).length = iI ((am_tx i).length : Int) from rfl, show Int32.ofNat (am_tx j).length = iI ((am_tx j).length : Int) from rfl, iI_toInt (by omega) (by omega), iI_toInt (by omega) (by omega)] at h2
      omega
    have ex : am_tx i = am_tx j := by
      refine List.ext_getElem el (fun n h1 h2 => ?_)
      have h3 := (g7 n h1).symm.trans (k7 n h2)
      have h4 : (am_tx i).getD n 0 = (am_tx j).getD n 0 := by
        have := Option.some.inj h3
        simpa using this
      rw [List.getD_eq_getElem?_getD, List.getD_eq_getElem?_getD, List.getElem?_eq_getElem h1, List.getElem?_eq_getElem h2] at h4
      exact h4
    have := List.all_eq_true.mp (List.all_eq_true.mp stx_ne i (List.mem_range.mpr hi)) j (List.mem_range.mpr hj)
    rw [Bool.or_eq_true] at this
    rcases this with h | h
    · exact beq_iff_eq.mp h
    · exact absurd ex (of_decide_eq_true h)
end STA
