/-! growing: arcs; the beginning -/
section GRA
variable {X : dm_X} {d d0 d' : dm_D} {w b n k A : Nat} {T L : List Int} {u : pv_T} {g : G3} {f : Nat → Int32} {c : Int}
theorem len_a {r dd rt hd : Nat} : (arcT r dd rt hd).length ≤ 28 := by
  have h1 := dg_len (n := r)
  have h2 := dg_len (n := dd)
  have h3 := dg_len (n := hd)
  have hlen : (arcT r dd rt hd).length = 4 + ((dg r).length + (1 + ((dg dd).length + ((if rt = 1 then txI 12 else []).length + ((if hd = 30 then [] else txI 13 ++ dg hd).length + 3))))) := by
    unfold arcT
    simp only [List.length_append]
    rfl
  have h4 : (if rt = 1 then txI 12 else []).length ≤ 6 := by
    split
    · exact Nat.le_refl 6
    · exact Nat.zero_le 6
  have h5 : (if hd = 30 then [] else txI 13 ++ dg hd).length ≤ 8 := by
    split
    · exact Nat.zero_le 8
    · rw [List.length_append, show (txI 13).length = 5 from rfl]
      omega
  omega
theorem n34 {a b c k p q r : Nat} (h1 : a ≤ b) (h2 : b ≤ c + p) (h3 : c ≤ q + r * k) (h4 : p ≤ r) : a ≤ q + r * (k + 1) := by
  rw [Nat.mul_add, Nat.mul_one]
  generalize r * k = z at h3 ⊢
  omega
/-- arcs -/
theorem g34 (hX : X.1 < 2147483648) : ∀ (m k : Nat) (d : dm_D) (u : pv_T) (T : List Int) (n : Nat), k + m = pkV X 1 5 → GS d w b u T g n → u.1 0 = k → u.1 1 = 0 → u.1 2 = 0 → T.length ≤ 28 * k → d.2.1 ≤ 1000 + 9000 * k → n ≤ k → g = (false, false, false) → Aok GP (F_X12_grown_34 X (.inl 4, 3) (.inl 0, w) (.inl 0, b) (iI (pkV X 1 5 : Int)) (iI k) d) := by
  have hL := dm_L6
  have h5 := pq_lt (X := X) (k := 1) (n := 5) (by omega)
  intro m
  induction m with
  | zero =>
    intro k d u T n hk G hu0 hu1 hu2 hT hc hn hg
    rw [E_X12_grown_34]
    refine Aok.t (by rw [xI_le (by omega) (by omega) (by omega) (by omega)]; omega) ?_
    exact g214 hX (pkV X 2 3) 0 d u T n (Nat.zero_add _) G (by omega) hu2 (by omega) (by omega) (by omega) hg
  | succ m ih =>
    intro k d u T n hk G hu0 hu1 hu2 hT hc hn hg
    obtain ⟨⟨N, M, E, F, R⟩, B, hP⟩ := G
    have hcc : d.2.1 ≤ 50000 := by omega
    have x1 := pq_lt (X := X) (k := 10 + k) (n := 60) (by omega)
    have x2 := pq_lt (X := X) (k := 20 + k) (n := 90) (by omega)
    have x3 := pq_lt (X := X) (k := 30 + k) (n := 2) (by omega)
    have x4 := pq_lt (X := X) (k := 40 + k) (n := 2) (by omega)
    have x5 := pq_lt (X := X) (k := 50 + k) (n := 100) (by omega)
    obtain ⟨r, hr⟩ : ∃ r, r = 1 + pkV X (10 + k) 60 := ⟨_, rfl⟩
    obtain ⟨dd, hdd⟩ : ∃ dd, dd = 1 + pkV X (20 + k) 90 := ⟨_, rfl⟩
    obtain ⟨rt, hrt⟩ : ∃ rt, rt = pkV X (30 + k) 2 := ⟨_, rfl⟩
    rw [E_X12_grown_34]
    refine Aok.f (by rw [xI_le (by omega) (by omega) (by omega) (by omega)]; omega) ?_
    obtain ⟨d1, q1, E1, a1⟩ := naA (d := d) (q := 4) (by omega) (by omega)
    refine Aok.b q1 ?_
    refine Aok.b (pkE hX (k := 10 + k) (n := 60) (by omega) (by omega) (by rw [iI_a]; rfl) rfl) ?_
    obtain ⟨d2, q2, E2, a2⟩ := wA E1 (Nat.le_refl _) a1 0 (by omega) (by omega) (iI ((1 + pkV X (10 + k) 60 : Nat) : Int))
    refine Aok.b (a := d2) ((congrArg (dm_wi d1 (.inl 0, d.1) 0 (iI 0)) (iI_a 1 _)).trans q2) ?_
    refine Aok.b (pkE hX (k := 20 + k) (n := 90) (by omega) (by omega) (by rw [iI_a]; rfl) rfl) ?_
    obtain ⟨d3, q3, E3, a3⟩ := wA E2 (Nat.le_refl _) a2 1 (by omega) (by omega) (iI ((1 + pkV X (20 + k) 90 : Nat) : Int))
    refine Aok.b (a := d3) ((congrArg (dm_wi d2 (.inl 0, d.1) 0 (iI 1)) (iI_a 1 _)).trans q3) ?_
    refine Aok.b (pkE hX (k := 30 + k) (n := 2) (by omega) (by omega) (by rw [iI_a]; rfl) rfl) ?_
    obtain ⟨d4, q4, E4, a4⟩ := wA E3 (Nat.le_refl _) a3 2 (by omega) (by omega) (iI (pkV X (30 + k) 2 : Int))
    refine Aok.b q4 ?_
    refine Aok.b (pkE hX (k := 40 + k) (n := 2) (by omega) (by omega) (by rw [iI_a]; rfl) rfl) ?_
    have key : ∀ hd : Nat, hd ≤ 99 → Aok GP (F_X12_grown_119 X (.inl 4, 3) (.inl 0, w) (.inl 0, b) (iI (pkV X 1 5 : Int)) (iI k) (.inl 0, d.1) (.inl 0, d.1) (iI 3) (iI (hd : Int)) d4) := by
      intro hd hhd
      obtain ⟨d5, q5, E5, a5⟩ := wA E4 (Nat.le_refl _) a4 3 (by omega) (by omega) (iI (hd : Int))
      have B5 := B.ext E5
      have R5 := R.ext E5
      have c5 := E5.2.1
      rw [← hr, ← hdd, ← hrt] at a5
      -- the end of an arc
      have k186 : ∀ d6 c m, TB d5 b c m (T ++ txI 10 ++ dg r ++ txI 11 ++ dg dd ++ (if rt = 1 then txI 12 else []) ++ (if hd = 30 then [] else txI 13 ++ dg hd)) d6 → c ≤ 803 * 7 → m ≤ 300 → Aok GP (F_X12_grown_186 X (.inl 4, 3) (.inl 0, w) (.inl 0, b) (iI (pkV X 1 5 : Int)) (iI k) (.inl 0, d.1) d6) := by
        intro d6 c m Q6 hc6 hm6
        rw [E_X12_grown_186]
        refine Q6.s (t := 14) (by omega) (by omega) (by omega) (fun d7 Q7 => ?_)
        have R7 := Q7.pw B5 R5
        have a7 := Q7.ar B5 a5
        have eT : T ++ txI 10 ++ dg r ++ txI 11 ++ dg dd ++ (if rt = 1 then txI 12 else []) ++ (if hd = 30 then [] else txI 13 ++ dg hd) ++ txI 14 = T ++ arcT r dd rt hd := by
          unfold arcT
          simp only [List.append_assoc]
        rw [eT] at Q7
        have c7 := Q7.2.1.2.1
        refine Aok.b (fr_at R7.1 rfl) ?_
        refine Aok.b (rk_at (R7.2.2.1 0 (by omega)).1) ?_
        obtain ⟨d8, M', E', F', q8, R8, z1, z2, z3⟩ := PW.add (X := X) (k := 0) (u' := arcV u r dd rt hd) R7 (by omega) (by omega) a7 (fun i hi => by
          obtain ⟨ff, aa, -⟩ := R.2.2.2.2.2.1 i hi
          have := aa.1
          show F 1 i ≠ d.1
          omega) (by omega) rfl (fun i hi => if_neg hi) rfl rfl (fun h => absurd rfl h) (fun _ c c1 c2 => by
            rcases (show c = 5 ∨ c = 6 ∨ c = 7 by omega) with rfl | rfl | rfl <;> rfl) (fun _ => by
            refine ⟨rfl, fun i hi c c1 c2 => ?_, ?_, ?_, ?_, ?_⟩
            · have hne : i ≠ u.1 0 := by omega
              rcases (show c = 1 ∨ c = 2 ∨ c = 3 ∨ c = 4 by omega) with rfl | rfl | rfl | rfl
              · exact if_neg hne
              · exact if_neg hne
              · exact if_neg hne
              · exact if_neg hne
            · exact congrArg iI (show (r : Int) = (if u.1 0 = u.1 0 then (r : Int) else u.2 1 (u.1 0)) by rw [if_pos rfl])
            · exact congrArg iI (show (dd : Int) = (if u.1 0 = u.1 0 then (dd : Int) else u.2 2 (u.1 0)) by rw [if_pos rfl])
            · exact congrArg iI (show (rt : Int) = (if u.1 0 = u.1 0 then (rt : Int) else u.2 3 (u.1 0)) by rw [if_pos rfl])
            · exact congrArg iI (show (hd : Int) = (if u.1 0 = u.1 0 then (hd : Int) else u.2 4 (u.1 0)) by rw [if_pos rfl])) (fun h => by omega)
        refine Aok.b q8 ?_
        rw [iS]
        have hl := len_a (r := r) (dd := dd) (rt := rt) (hd := hd)
        have hP2 := hP.arc (r := r) (d := dd) (rt := rt) (hd := hd) (by omega) (by omega) (by omega) (by omega) (by omega)
        refine ih (k + 1) d8 _ _ (n + 1) (by omega) ⟨⟨N, M', E', F', R8⟩, z3 _ _ Q7.1, hP2⟩ (by show u.1 0 + 1 = k + 1; omega) hu1 hu2 (by rw [List.length_append]; omega) (n34 z2 (show d7.2.1 + (2 * u.1 0 + 12) ≤ d.2.1 + 9000 by omega) hc (Nat.le_refl _)) (by omega) hg
      -- behind the degrees
      have k163 : ∀ d6 c m, TB d5 b c m (T ++ txI 10 ++ dg r ++ txI 11 ++ dg dd ++ (if rt = 1 then txI 12 else [])) d6 → c ≤ 803 * 5 → m ≤ 250 → Aok GP (F_X12_grown_163 X (.inl 4, 3) (.inl 0, w) (.inl 0, b) (iI (pkV X 1 5 : Int)) (iI k) (.inl 0, d.1) d6) := by
        intro d6 c m Q6 hc6 hm6
        rw [E_X12_grown_163]
        refine Aok.b (li3 (Q6.ar B5 a5) rfl rfl) ?_
        by_cases e : hd = 30
        · refine Aok.t (show iI (hd : Int) = iI 30 by rw [e]; rfl) ?_
          refine k186 d6 c m ?_ (by omega) (by omega)
          rw [if_pos e, List.append_nil]
          exact Q6
        · refine Aok.f (show ¬ iI (hd : Int) = iI 30 by rw [xI_eq (by omega) (by omega) (by omega) (by omega)]; omega) ?_
          refine Q6.s (t := 13) (by omega) (by omega) (by omega) (fun d7 Q7 => ?_)
          refine Aok.b (li3 (Q7.ar B5 a5) rfl rfl) ?_
          refine Q7.i (n := hd) (by omega) rfl (by omega) (by omega) (fun d8 Q8 => ?_)
          refine k186 d8 (c + 803 + 803) (m + 9 + 3) ?_ (by omega) (by omega)
          rw [if_neg e, ← List.append_assoc]
          exact Q8
      rw [E_X12_grown_119]
      refine Aok.b q5 ?_
      refine (TB.st B5 (m := 120) (by omega)).s (t := 10) (by omega) (by omega) (by omega) (fun d6 Q6 => ?_)
      refine Aok.b (li0 (Q6.ar B5 a5) rfl rfl) ?_
      refine Q6.i (n := r) (by omega) rfl (by omega) (by omega) (fun d7 Q7 => ?_)
      refine Q7.s (t := 11) (by omega) (by omega) (by omega) (fun d8 Q8 => ?_)
      refine Aok.b (li1 (Q8.ar B5 a5) rfl rfl) ?_
      refine Q8.i (n := dd) (by omega) rfl (by omega) (by omega) (fun d9 Q9 => ?_)
      refine Aok.b (li2 (Q9.ar B5 a5) rfl rfl) ?_
      by_cases e : rt = 1
      · refine Aok.t (show iI (rt : Int) = iI 1 by rw [e]; rfl) ?_
        refine Q9.s (t := 12) (by omega) (by omega) (by omega) (fun d10 Q10 => ?_)
        refine k163 d10 (0 + 803 + 803 + 803 + 803 + 803) (120 + 9 + 3 + 9 + 3 + 9) ?_ (by omega) (by omega)
        rw [if_pos e]
        exact Q10
      · refine Aok.f (show ¬ iI (rt : Int) = iI 1 by rw [xI_eq (by omega) (by omega) (by omega) (by omega)]; omega) ?_
        refine k163 d9 (0 + 803 + 803 + 803 + 803) (120 + 9 + 3 + 9 + 3) ?_ (by omega) (by omega)
        rw [if_neg e, List.append_nil]
        exact Q9
    by_cases c : pkV X (40 + k) 2 = 0
    · refine Aok.t (by rw [c]; rfl) ?_
      exact key 30 (by omega)
    · refine Aok.f (by rw [xI_0, xI_eq (by omega) (by omega) (by omega) (by omega)]; omega) ?_
      refine Aok.b (pkE hX (k := 50 + k) (n := 100) (by omega) (by omega) (by rw [iI_a]; rfl) rfl) ?_
      exact key (pkV X (50 + k) 100) (by omega)
end GRA
