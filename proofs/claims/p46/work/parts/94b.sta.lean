/-! the start: what stays of it -/
section STA
abbrev gvT : Cond := Jvm.Cond.and given_1 narrow_1
def stm (i : Nat) : String × Nat := match am_sT.find? (fun q => q.2.2.2 == i) with
  | some q => (q.1, q.2.1)
  | none => ("", 0)
def stF (t : Term) : Term := .field t "java/lang/String" "value" "[B"
def stw (t : Term) (tx : List Int32) : List Cond := [Cond.exactly t "java/lang/String", Cond.eq (.field t "java/lang/String" "coder" "B") (.int 0), Cond.arrayOf (stF t) .byte, Cond.eq (.length (stF t)) (.int (Int32.ofNat tx.length))] ++ (List.range tx.length).map (fun j => Cond.eq (.elem (stF t) (.int (Int32.ofNat j))) (.int (tx.getD j 0)))
def stpl : List Nat := [242, 266, 274, 282, 294, 302, 311, 249, 258, 346, 350, 358, 363, 373, 382, 389, 398, 403, 412, 425, 434, 444]
theorem stw_at : ((List.range 22).all (fun i => decide (((flatC gvT).drop (stpl.getD i 0)).take (4 + (am_tx i).length) = stw (.string (stm i).1 (stm i).2) (am_tx i)))) = true := by decide +kernel
theorem stw_in {i : Nat} (hi : i < 22) : ∀ w ∈ stw (.string (stm i).1 (stm i).2) (am_tx i), w ∈ flatC gvT := fun w h => by
  have h1 := of_decide_eq_true (List.all_eq_true.mp stw_at i (List.mem_range.mpr hi))
  rw [← h1] at h
  exact List.mem_of_mem_drop (List.mem_of_mem_take h)
theorem stx_ne : ((List.range 22).all (fun i => (List.range 22).all (fun j => i == j || decide (am_tx i ≠ am_tx j)))) = true := by decide +kernel
theorem stx_len : ((List.range 22).all (fun i => decide ((am_tx i).length < 20))) = true := by decide +kernel
theorem st_in : (am_sT.all (fun q => decide (Cond.stringRef q.1 q.2.1 q.2.2.1 ∈ lw_tbl) && decide (stm q.2.2.2 = (q.1, q.2.1)))) = true := by decide +kernel
variable {s : State} {b : Nat}
theorem st_str (hs : ∀ w ∈ flatC gvT, w.before #[Value.ref b] s = true) : ∃ sa sb : Nat → Nat, vk_S 22 am_sl am_sb sa sb (fun q => s.heap.size ≤ q) s s.heap ∧ ∀ i, i < 22 → (Term.string (stm i).1 (stm i).2).eval #[Value.ref b] s none [] s = some (.ref (sa i)) := by
  have hA : ∀ a : Nat, a < s.heap.size → ¬ (fun q => s.heap.size ≤ q) a := fun a h => Nat.not_le.mpr h
  have h0 : ∀ i : Nat, ∃ q : Nat × Nat, i < 22 → (Term.string (stm i).1 (stm i).2).eval #[Value.ref b] s none [] s = some (.ref q.1) ∧ va_O "java/lang/String" q.1 (fun q => s.heap.size ≤ q) s s.heap ∧ va_OF "java/lang/String" "coder" "B" (.int 0) q.1 (fun q => s.heap.size ≤ q) s s.heap ∧ va_OF "java/lang/String" "value" "[B" (.ref q.2) q.1 (fun q => s.heap.size ≤ q) s s.heap ∧ va_T .byte q.2 (am_tx i).length (fun j => .int ((am_tx i).getD j 0)) (fun q => s.heap.size ≤ q) s s.heap := by
    intro i
    by_cases hi : i < 22
    · have hw : ∀ w ∈ stw (.string (stm i).1 (stm i).2) (am_tx i), w.before #[Value.ref b] s = true := fun w h => hs w (stw_in hi w h)
      have hlen : (am_tx i).length < 20 := of_decide_eq_true (List.all_eq_true.mp stx_len i (List.mem_range.mpr hi))
      obtain ⟨adK, adV, ⟨v1, -⟩, v2⟩ := vk_Sof (args := #[Value.ref b]) (s := s) (N := 1) (tm := fun _ => .string (stm i).1 (stm i).2) (len := [(am_tx i).length]) (byt := [am_tx i]) (A := fun q => s.heap.size ≤ q) (fun k hk => by
          obtain rfl : k = 0 := by omega
          show (am_tx i).length < 2 ^ 31
          omega) (fun k hk => hw _ (by simp [stw])) (fun k hk => hw _ (by simp [stw])) (fun k hk => hw _ (by simp [stw, stF])) (fun k hk => by
          obtain rfl : k = 0 := by omega
          exact hw _ (by simp [stw, stF])) (fun k hk j hj => by
          obtain rfl : k = 0 := by omega
          exact hw _ (List.mem_append_right _ (List.mem_map.mpr ⟨j, List.mem_range.mpr hj, rfl⟩))) (fun i j hi hj h => absurd (by omega : i = j) h) hA
      exact ⟨(adK 0, adV 0), fun _ => ⟨v2 0 (by omega), v1 0 (by omega)⟩⟩
    · exact ⟨(0, 0), fun h => absurd h hi⟩
  obtain ⟨f, hf⟩ := Classical.axiomOfChoice h0
  refine ⟨fun i => (f i).1, fun i => (f i).2, ⟨fun i hi => ?_, fun i j hi hj e => ?_⟩, fun i hi => (hf i hi).1⟩
  · have e1 : am_sl.getD i 0 = (am_tx i).length := by
      unfold am_sl
      rw [List.getD_eq_getElem?_getD, List.getElem?_map, List.getElem?_range hi]
      rfl
    have e2 : am_sb.getD i [] = am_tx i := by
      unfold am_sb
      rw [List.getD_eq_getElem?_getD, List.getElem?_map, List.getElem?_range hi]
      rfl
    rw [e1, e2]
    exact (hf i hi).2
  · obtain ⟨-, -, -, a4, a5⟩ := hf i hi
    obtain ⟨-, -, -, b4, b5⟩ := hf j hj
    have e : (f i).1 = (f j).1 := e
    rw [← e] at b4
    obtain ⟨c1, c2, c3, c4, c5, c6, c7, c8, c9, c10, c11⟩ := a4
    obtain ⟨d1, d2, d3, d4, d5, d6, d7, d8, d9, d10, d11⟩ := b4
    cases c6.symm.trans d6
    cases c8.symm.trans d8
    have ev : (f i).2 = (f j).2 := by
      have := c10.symm.trans d10
      simpa using this
    rw [← ev] at b5
    obtain ⟨g1, g2, g3, g4, g5, g6, g7, g8⟩ := a5
    obtain ⟨k1, k2, k3, k4, k5, k6, k7, k8⟩ := b5
    cases g2.symm.trans k2
    have l1 : (am_tx i).length < 20 := of_decide_eq_true (List.all_eq_true.mp stx_len i (List.mem_range.mpr hi))
    have l2 : (am_tx j).length < 20 := of_decide_eq_true (List.all_eq_true.mp stx_len j (List.mem_range.mpr hj))
    have el : (am_tx i).length = (am_tx j).length := by
      have h1 := g6.symm.trans k6
      have h2 := congrArg Int32.toInt h1
      rw [show Int32.ofNat (am_tx i).length = iI ((am_tx i).length : Int) from rfl, show Int32.ofNat (am_tx j).length = iI ((am_tx j).length : Int) from rfl, iI_toInt (by omega) (by omega), iI_toInt (by omega) (by omega)] at h2
      omega
    have ex : am_tx i = am_tx j := by
      refine List.ext_getElem el (fun n h1 h2 => ?_)
      have h3 := (g7 n h1).symm.trans (k7 n h2)
      have h4 : (am_tx i).getD n 0 = (am_tx j).getD n 0 := by
        have := Option.some.inj h3
        simpa using this
      rw [List.getD_eq_getElem?_getD, List.getD_eq_getElem?_getD, List.getElem?_eq_getElem h1, List.getElem?_eq_getElem h2] at h4
      exact h4
    have := List.all_eq_true.mp (List.all_eq_true.mp stx_ne i (List.mem_range.mpr hi)) j (List.mem_range.mpr hj)
    rw [Bool.or_eq_true] at this
    rcases this with h | h
    · exact beq_iff_eq.mp h
    · exact absurd ex (of_decide_eq_true h)
/-- a number said of a term -/
theorem va_eqn {args : Array Value} {s : State} {t : Term} {z : Int32} (h : (Cond.eq t (.int z)).before args s = true) : t.eval args s none [] s = some (.int z) := by
  cases hv : t.eval args s none [] s with
  | none => simp [Cond.before, Cond.holds, Cond.value, hv] at h
  | some w =>
    have hz : (Term.int z).eval args s none [] s = some (.int z) := rfl
    simp only [Cond.before, Cond.holds, Cond.value, hv, hz] at h
    cases w <;> simp_all
def stD (n : String) : Term := .static "java/lang/Integer" n "[B"
def dgw (n : String) (f : Nat → Int32) : List Cond := [Cond.arrayOf (stD n) .byte, Cond.eq (.length (stD n)) (.int 100)] ++ (List.range 100).map (fun j => Cond.eq (.elem (stD n) (.int (Int32.ofNat j))) (.int (f j)))
theorem dg1_in : ((flatC gvT).drop 16).take 102 = dgw "DigitOnes" dm_d1 := by decide +kernel
theorem dg2_in : ((flatC gvT).drop 119).take 102 = dgw "DigitTens" dm_d10 := by decide +kernel
theorem st_dig {n : String} {f : Nat → Int32} {A : Nat → Prop} {k : Nat} (hin : ((flatC gvT).drop k).take 102 = dgw n f) (hts : ∀ w ∈ lw_tbl, w.before #[Value.ref b] s = true) (hs : ∀ w ∈ flatC gvT, w.before #[Value.ref b] s = true) (h1 : Cond.laysStatic "java/lang/Integer" n "[B" ∈ lw_tbl) (h2 : Cond.initialized "java/lang/Integer" ∈ lw_tbl) (hA : ∀ a : Nat, a < s.heap.size → ¬ A a) : ∃ t : Nat, va_Z "java/lang/Integer" n "[B" (.ref t) A s s.heap ∧ va_T .byte t 100 (fun j => .int (f j)) A s s.heap := by
  have hw : ∀ w ∈ dgw n f, w.before #[Value.ref b] s = true := fun w h => hs w (by rw [← hin] at h; exact List.mem_of_mem_drop (List.mem_of_mem_take h))
  obtain ⟨t, h3, h4⟩ := va_Tof (N := 100) (f := fun j => .int (f j)) (tm := stD n) (ty := .byte) (A := A) (by decide) (hw _ (by simp [dgw])) (va_eqn (hw _ (by simp [dgw]))) (fun j hj => va_eqn (hw _ (List.mem_append_right _ (List.mem_map.mpr ⟨j, List.mem_range.mpr hj, rfl⟩)))) hA
  exact ⟨t, va_Zof (hts _ h1) (hts _ h2) h3 hA, h4⟩
end STA
