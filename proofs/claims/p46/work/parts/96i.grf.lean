/-! growing: flourishes, widths -/
section GRF
variable {X : dm_X} {d d0 d' : dm_D} {w b n k A : Nat} {T : List Int} {u : pv_T} {g : G3} {f : Nat → Int32}
theorem wA {d2 : dm_D} {c q : Nat} (E1 : Ext c d d2) (hA : d.1 ≤ A) (a : dAr d2 A 0 q f) (p : Nat) (hp : p < q) (hq : q < 1000) (y : Int32) : ∃ d3, dm_wi d2 (.inl 0, A) 0 (iI (p : Int)) y = some d3 ∧ Ext c d d3 ∧ dAr d3 A 0 q (upd f p y) := ⟨_, wik a hp (by omega), E1.se hA, dAr.se a.1⟩
theorem naA {q : Nat} (hq : q < 1000) (hb : d.2.1 + q + 1 ≤ dm_L) : ∃ d2, dm_na d 0 (iI (q : Int)) = some d2 ∧ Ext (q + 1) d d2 ∧ dAr d2 d.1 0 q (fun _ => 0) := ⟨_, na_at (by omega) (by omega) (by rw [Int.toNat_natCast]; exact hb), by rw [Int.toNat_natCast]; exact Ext.nw, by rw [Int.toNat_natCast]; exact dAr.nw⟩
theorem len_f {c : Int} {x y z : Nat} : (floT c x y z).length ≤ 22 := by
  have h1 := dg_len (n := x)
  have h2 := dg_len (n := y)
  have h3 := dg_len (n := z)
  have hlen : (floT c x y z).length = 9 + (1 + ((dg x).length + (1 + ((dg y).length + (1 + ((dg z).length + 1)))))) := by
    unfold floT
    simp only [List.length_append]
    rfl
  omega
theorem len_w {c : Int} {x : Nat} : (widT c x).length ≤ 11 := by
  have h1 := dg_len (n := x)
  have hlen : (widT c x).length = 5 + (1 + (1 + ((dg x).length + 1))) := by
    unfold widT
    simp only [List.length_append]
    rfl
  omega
/-- flourishes -/
theorem g412 (hX : X.1 < 2147483648) : ∀ (m k : Nat) (d : dm_D) (u : pv_T) (T : List Int) (n : Nat), k + m = pkV X 3 4 → GS d w b u T g n → u.1 2 = k → T.length ≤ 220 + 22 * k → d.2.1 ≤ 140000 + 7000 * k → n ≤ 100 + k → g = (false, false, false) → Aok GP (F_X12_grown_412 X (.inl 4, 3) (.inl 0, w) (.inl 0, b) (iI k) d) := by
  have hL := dm_L6
  have h4 := pq_lt (X := X) (k := 3) (n := 4) (by omega)
  intro m
  induction m with
  | zero =>
    intro k d u T n hk G hu hT hc hn hg
    rw [E_X12_grown_412]
    refine Aok.b (pkE hX (k := 3) (n := 4) (by omega) (by omega) rfl rfl) ?_
    refine Aok.t (by rw [xI_le (by omega) (by omega) (by omega) (by omega)]; omega) ?_
    refine Aok.b (pkE hX (k := 4) (n := 2) (by omega) (by omega) rfl rfl) ?_
    by_cases c : pkV X 4 2 = 0
    · refine Aok.t (by rw [c]; rfl) ?_
      have hx := pq_lt (X := X) (k := 5) (n := 1000) (by omega)
      refine Aok.b (pkE hX (k := 5) (n := 1000) (by omega) (by omega) rfl rfl) ?_
      obtain ⟨⟨N, M, E, F, R⟩, B, hP⟩ := G
      obtain ⟨d1, e1, R1, z1, z2, z3⟩ := R.own 2 (by omega) (pkV X 5 1000)
      have B1 := z3 b T B
      refine Aok.b e1 ?_
      refine (TB.st B1 (m := 300) (by omega)).s (t := 19) (by omega) (by omega) (by omega) (fun d2 Q2 => ?_)
      refine Aok.b (fi_at (Q2.pw B1 R1).1 rfl) ?_
      refine Q2.i (n := pkV X 5 1000) (by omega) rfl (by omega) (by omega) (fun d3 Q3 => ?_)
      refine Q3.s (t := 16) (by omega) (by omega) (by omega) (fun d4 Q4 => ?_)
      have hP2 := hP.see (x := pkV X 5 1000) (by omega) (by rw [hg])
      have eT : T ++ txI 19 ++ dg (pkV X 5 1000) ++ txI 16 = T ++ (txI 19 ++ (dg (pkV X 5 1000) ++ txI 16)) := by simp only [List.append_assoc]
      have R4 := Q4.pw B1 R1
      rw [eT] at Q4
      have hl := len_e (x := pkV X 5 1000) (t := 19) (m := 5) rfl
      exact g587 hX ⟨⟨N, M, E, F, R4⟩, Q4.1, hP2⟩ (by rw [List.length_append]; omega) (by have := Q4.2.1.2.1; show d4.2.1 ≤ _; omega) (by omega) (by rw [hg]; exact ⟨rfl, rfl⟩)
    · refine Aok.f (by rw [xI_0, xI_eq (by omega) (by have := pq_lt (X := X) (k := 4) (n := 2) (by omega); omega) (by omega) (by omega)]; omega) ?_
      exact g587 hX G (by omega) (by omega) (by omega) (by rw [hg]; exact ⟨rfl, rfl⟩)
  | succ m ih =>
    intro k d u T n hk G hu hT hc hn hg
    obtain ⟨⟨N, M, E, F, R⟩, B, hP⟩ := G
    have x1 := pq_lt (X := X) (k := 120 + k) (n := 12) (by omega)
    have x2 := pq_lt (X := X) (k := 130 + k) (n := 9) (by omega)
    have x3 := pq_lt (X := X) (k := 140 + k) (n := 3) (by omega)
    rw [E_X12_grown_412]
    refine Aok.b (pkE hX (k := 3) (n := 4) (by omega) (by omega) rfl rfl) ?_
    refine Aok.f (by rw [xI_le (by omega) (by omega) (by omega) (by omega)]; omega) ?_
    obtain ⟨d1, q1, E1, a1⟩ := naA (d := d) (q := 3) (by omega) (by omega)
    refine Aok.b q1 ?_
    refine Aok.b (pkE hX (k := 120 + k) (n := 12) (by omega) (by omega) (by rw [iI_a]; rfl) rfl) ?_
    obtain ⟨d2, q2, E2, a2⟩ := wA E1 (Nat.le_refl _) a1 0 (by omega) (by omega) (iI ((1 + pkV X (120 + k) 12 : Nat) : Int))
    refine Aok.b (a := d2) ((congrArg (dm_wi d1 (.inl 0, d.1) 0 (iI 0)) (iI_a 1 _)).trans q2) ?_
    refine Aok.b (pkE hX (k := 130 + k) (n := 9) (by omega) (by omega) (by rw [iI_a]; rfl) rfl) ?_
    obtain ⟨d3, q3, E3, a3⟩ := wA E2 (Nat.le_refl _) a2 1 (by omega) (by omega) (iI ((1 + pkV X (130 + k) 9 : Nat) : Int))
    refine Aok.b (a := d3) ((congrArg (dm_wi d2 (.inl 0, d.1) 0 (iI 1)) (iI_a 1 _)).trans q3) ?_
    refine Aok.b (pkE hX (k := 140 + k) (n := 3) (by omega) (by omega) (by rw [iI_a]; rfl) rfl) ?_
    obtain ⟨d4, q4, E4, a4⟩ := wA E3 (Nat.le_refl _) a3 2 (by omega) (by omega) (iI ((1 + pkV X (140 + k) 3 : Nat) : Int))
    refine Aok.b (a := d4) ((congrArg (dm_wi d3 (.inl 0, d.1) 0 (iI 2)) (iI_a 1 _)).trans q4) ?_
    have B4 := B.ext E4
    have R4 := R.ext E4
    have c4 := E4.2.1
    refine (TB.st B4 (m := 300) (by omega)).s (t := 18) (by omega) (by omega) (by omega) (fun d5 Q5 => ?_)
    refine Q5.ch (z := 112 + k) (by omega) (chr_f k (by omega)) (by omega) (by omega) (fun d6 Q6 => ?_)
    refine Aok.b (li0 (Q6.ar B4 a4) rfl rfl) ?_
    refine Q6.i (n := 1 + pkV X (120 + k) 12) (by omega) rfl (by omega) (by omega) (fun d7 Q7 => ?_)
    refine Q7.s (t := 11) (by omega) (by omega) (by omega) (fun d8 Q8 => ?_)
    refine Aok.b (li1 (Q8.ar B4 a4) rfl rfl) ?_
    refine Q8.i (n := 1 + pkV X (130 + k) 9) (by omega) rfl (by omega) (by omega) (fun d9 Q9 => ?_)
    refine Q9.s (t := 11) (by omega) (by omega) (by omega) (fun d10 Q10 => ?_)
    refine Aok.b (li2 (Q10.ar B4 a4) rfl rfl) ?_
    refine Q10.i (n := 1 + pkV X (140 + k) 3) (by omega) rfl (by omega) (by omega) (fun d11 Q11 => ?_)
    refine Q11.s (t := 16) (by omega) (by omega) (by omega) (fun d12 Q12 => ?_)
    have hP2 := hP.kin (x := 1 + pkV X (120 + k) 12) (y := 1 + pkV X (130 + k) 9) (z := 1 + pkV X (140 + k) 3) (by omega) (by omega) (by omega) (by omega)
    have eT : T ++ txI 18 ++ [((112 + k : Nat) : Int)] ++ dg (1 + pkV X (120 + k) 12) ++ txI 11 ++ dg (1 + pkV X (130 + k) 9) ++ txI 11 ++ dg (1 + pkV X (140 + k) 3) ++ txI 16 = T ++ floT (112 + (u.1 2 : Int)) (1 + pkV X (120 + k) 12) (1 + pkV X (130 + k) 9) (1 + pkV X (140 + k) 3) := by
      unfold floT
      rw [hu]
      simp only [List.append_assoc]
      rfl
    have R12 := Q12.pw B4 R4
    have a12 := Q12.ar B4 a4
    rw [eT] at Q12
    have c12 := Q12.2.1.2.1
    refine Aok.b (fr_at R12.1 rfl) ?_
    refine Aok.b (rk_at (R12.2.2.1 2 (by omega)).1) ?_
    obtain ⟨d13, M', E', F', q13, R13, z1, z2, z3⟩ := PW.add (X := X) (k := 2) (u' := pn u 2 (u.1 2 + 1)) R12 (by omega) (by omega) a12 (fun i hi => by
      obtain ⟨mm, ff, aa⟩ := R.2.2.2.2.2.2.2.1 i hi
      have := aa.1
      show F 3 i ≠ d.1
      omega) (by omega) rfl (fun i hi => if_neg hi) rfl rfl (fun _ _ _ _ => rfl) (fun _ _ _ _ => rfl) (fun h => by omega) (fun h => by omega)
    refine Aok.b q13 ?_
    rw [iS]
    have hl := len_f (c := 112 + (u.1 2 : Int)) (x := 1 + pkV X (120 + k) 12) (y := 1 + pkV X (130 + k) 9) (z := 1 + pkV X (140 + k) 3)
    exact ih (k + 1) d13 _ _ (n + 1) (by omega) ⟨⟨N, M', E', F', R13⟩, z3 _ _ Q12.1, hP2⟩ (by show u.1 2 + 1 = k + 1; omega) (by rw [List.length_append]; omega) (by omega) (by omega) hg
/-- widths -/
theorem n328 {a b c k p q r : Nat} (h1 : a ≤ b + p) (h2 : b = c) (h3 : c ≤ q + r * k) (h4 : p ≤ r) : a ≤ q + r * (k + 1) := by
  rw [Nat.mul_add, Nat.mul_one]
  generalize r * k = z at h3 ⊢
  omega
theorem g328 (hX : X.1 < 2147483648) : ∀ (m k : Nat) (d : dm_D) (u : pv_T) (T : List Int) (n : Nat), k + m = 3 → GS d w b u T g n → u.1 2 = 0 → T.length ≤ 180 + 11 * k → d.2.1 ≤ 120000 + 5000 * k → n ≤ 50 + k → g = (false, false, false) → Aok GP (F_X12_grown_328 X (.inl 4, 3) (.inl 0, w) (.inl 0, b) (iI k) d) := by
  have hL := dm_L6
  intro m
  induction m with
  | zero =>
    intro k d u T n hk G hu hT hc hn hg
    rw [E_X12_grown_328]
    refine Aok.t (by rw [xI_le (by omega) (by omega) (by omega) (by omega)]; omega) ?_
    exact g412 hX (pkV X 3 4) 0 d u T n (Nat.zero_add _) G hu (by omega) (by omega) (by omega) hg
  | succ m ih =>
    intro k d u T n hk G hu hT hc hn hg
    obtain ⟨⟨N, M, E, F, R⟩, B, hP⟩ := G
    have x1 := pq_lt (X := X) (k := 100 + k) (n := 26) (by omega)
    have x2 := pq_lt (X := X) (k := 110 + k) (n := 9) (by omega)
    obtain ⟨f, b1, b2⟩ := R.2.1
    rw [E_X12_grown_328]
    refine Aok.f (by rw [xI_le (by omega) (by omega) (by omega) (by omega)]; omega) ?_
    refine Aok.b (pkE hX (k := 100 + k) (n := 26) (by omega) (by omega) (by rw [iI_a]; rfl) rfl) ?_
    refine Aok.b (fr_at R.1 rfl) ?_
    refine Aok.b (pkE hX (k := 110 + k) (n := 9) (by omega) (by omega) (by rw [iI_a]; rfl) rfl) ?_
    obtain ⟨d1, e1, R1, B1, a1, hc1⟩ : ∃ d1, dm_wi d (.inl 0, N 0) 0 (iI (pkV X (100 + k) 26 : Int)) (iI 1 + iI (pkV X (110 + k) 9 : Int)) = some d1 ∧ PW d1 w (pu u 8 (pkV X (100 + k) 26) ((1 + pkV X (110 + k) 9 : Nat) : Int)) (.inr (.inl 2, 9)) N M E F ∧ BuS d1 b T ∧ dAr d1 (N 0) 0 26 (upd f (pkV X (100 + k) 26) (iI ((1 + pkV X (110 + k) 9 : Nat) : Int))) ∧ d1.2.1 = d.2.1 := by
      refine ⟨_, (congrArg (dm_wi d (.inl 0, N 0) 0 (iI (pkV X (100 + k) 26 : Int))) (iI_a 1 _)).trans (wik b1 x1 (by omega)), R.wd (k := pkV X (100 + k) 26) x1 (x := ((1 + pkV X (110 + k) 9 : Nat) : Int)) b1 b2, ?_, dAr.se b1.1, rfl⟩
      obtain ⟨r, cap, ff, o, a, B2⟩ := B
      exact ⟨r, cap, ff, ⟨o.1, (se_ne (Ne.symm (ar_ne o b1))).trans o.2⟩, a.sg (fun t => by
        have y1 := a.2
        have y2 := b1.2
        rw [t, y2] at y1
        cases y1), B2⟩
    refine Aok.b e1 ?_
    refine (TB.st B1 (m := 300) (by omega)).s (t := 17) (by omega) (by omega) (by omega) (fun d2 Q2 => ?_)
    refine Q2.ch (z := 97 + pkV X (100 + k) 26) (by omega) (chr_e _ x1) (by omega) (by omega) (fun d3 Q3 => ?_)
    refine Q3.s (t := 11) (by omega) (by omega) (by omega) (fun d4 Q4 => ?_)
    refine Aok.b (fr_at (Q4.pw B1 R1).1 rfl) ?_
    refine Aok.b (lik (Q4.ar B1 a1) _ x1 (by omega)) ?_
    refine Q4.i (n := 1 + pkV X (110 + k) 9) (by omega) up_s (by omega) (by omega) (fun d5 Q5 => ?_)
    refine Q5.s (t := 16) (by omega) (by omega) (by omega) (fun d6 Q6 => ?_)
    have hP2 := hP.wid (k := pkV X (100 + k) 26) (x := 1 + pkV X (110 + k) 9) x1 (by omega)
    have eT : T ++ txI 17 ++ [((97 + pkV X (100 + k) 26 : Nat) : Int)] ++ txI 11 ++ dg (1 + pkV X (110 + k) 9) ++ txI 16 = T ++ widT (97 + (pkV X (100 + k) 26 : Int)) (1 + pkV X (110 + k) 9) := by
      unfold widT
      simp only [List.append_assoc]
      rfl
    have R6 := Q6.pw B1 R1
    rw [eT] at Q6
    have c6 := Q6.2.1.2.1
    have hl := len_w (c := 97 + (pkV X (100 + k) 26 : Int)) (x := 1 + pkV X (110 + k) 9)
    rw [iS]
    exact ih (k + 1) d6 _ _ (n + 1) (by omega) ⟨⟨N, M, E, F, R6⟩, Q6.1, hP2⟩ hu (by rw [List.length_append]; omega) (n328 c6 hc1 hc (Nat.le_of_ble_eq_true rfl)) (by omega) hg
end GRF
