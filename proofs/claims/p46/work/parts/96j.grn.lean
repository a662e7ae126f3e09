/-! growing: names, arcs -/
section GRN
variable {X : dm_X} {d d0 d' : dm_D} {w b n k A : Nat} {T L : List Int} {u : pv_T} {g : G3} {f : Nat → Int32} {c : Int}
theorem nam_o {c : Nat} (h : c < 5 ∨ 7 < c) : (namU u L).2 c = u.2 c := by
  funext i
  show (if c = 5 ∧ u.1 1 ≤ i then L.getD (i - u.1 1) 0 - 97 else if (c = 6 ∨ c = 7) ∧ u.1 1 ≤ i then 0 else u.2 c i) = _
  rw [if_neg (by omega), if_neg (by omega)]
theorem nam_5 {i : Nat} : (namU u L).2 5 i = if u.1 1 ≤ i then L.getD (i - u.1 1) 0 - 97 else u.2 5 i := by
  show (if 5 = 5 ∧ u.1 1 ≤ i then L.getD (i - u.1 1) 0 - 97 else if (5 = 6 ∨ 5 = 7) ∧ u.1 1 ≤ i then 0 else u.2 5 i) = _
  by_cases h : u.1 1 ≤ i
  · rw [if_pos ⟨rfl, h⟩, if_pos h]
  · rw [if_neg (fun t => h t.2), if_neg (by omega), if_neg h]
theorem nam_67 {c i : Nat} (hc : c = 6 ∨ c = 7) : (namU u L).2 c i = if u.1 1 ≤ i then 0 else u.2 c i := by
  show (if c = 5 ∧ u.1 1 ≤ i then L.getD (i - u.1 1) 0 - 97 else if (c = 6 ∨ c = 7) ∧ u.1 1 ≤ i then 0 else u.2 c i) = _
  rw [if_neg (by omega)]
  by_cases h : u.1 1 ≤ i
  · rw [if_pos ⟨hc, h⟩, if_pos h]
  · rw [if_neg (fun t => h t.2), if_neg h]
theorem nam_n : (namU u L).1 1 = u.1 1 + L.length := rfl
theorem nam_i {i : Nat} (h : i ≠ 1) : (namU u L).1 i = u.1 i := if_neg h
theorem getD_l : (L ++ [c]).getD L.length 0 = c := by
  rw [gD_app, if_neg (by omega), Nat.sub_self]
  rfl
theorem getD_f {i : Nat} (h : i < L.length) : (L ++ [c]).getD i 0 = L.getD i 0 := by
  rw [gD_app, if_pos h]
/-- the letters of a name -/
theorem g235 (hX : X.1 < 2147483648) {kk : Nat} (hkk : kk < 3) (hP : Par T u g n) (hu : u.1 1 ≤ 10) (hT : T.length ≤ 200) (K : ∀ d' L', 1 ≤ L'.length ∧ L'.length ≤ 5 → GS d' w b (namU u L') (T ++ namT L') g (n + 1) → d'.2.1 ≤ d0.2.1 + 6803 → Aok GP (F_X12_grown_214 X (.inl 4, 3) (.inl 0, w) (.inl 0, b) (iI kk + 1) d')) : ∀ (m j : Nat) (d : dm_D) (L : List Int), j + m = pkV X (60 + kk) 5 + 1 → (∃ N M E F, PW d w (namU u L) (.inr (.inl 2, 9)) N M E F) → BuS d b (T ++ txI 15 ++ L) → L.length = j → (∀ i, i < L.length → 97 ≤ L.getD i 0 ∧ L.getD i 0 ≤ 122) → d.2.1 ≤ d0.2.1 + 1000 * j → d0.2.1 ≤ 100000 → Aok GP (F_X12_grown_235 X (.inl 4, 3) (.inl 0, w) (.inl 0, b) (iI kk) (iI j) d) := by
  have hL := dm_L6
  have h5 := pq_lt (X := X) (k := 60 + kk) (n := 5) (by omega)
  intro m
  induction m with
  | zero =>
    intro j d L hj ⟨N, M, E, F, R⟩ B hl hc hd hd0
    rw [E_X12_grown_235]
    refine Aok.b (pkE hX (k := 60 + kk) (n := 5) (by omega) (by omega) (by rw [iI_a]; rfl) rfl) ?_
    refine Aok.t (by rw [xI_lt (by omega) (by omega) (by omega) (by omega)]; omega) ?_
    have hl15 : (T ++ txI 15 ++ L).length ≤ 300 := by
      rw [List.length_append, List.length_append, show (txI 15).length = 5 from rfl]
      omega
    refine (TB.st B hl15).s (t := 16) (by omega) (by omega) (by omega) (fun d2 Q2 => ?_)
    have R2 := Q2.pw B R
    have eT : T ++ txI 15 ++ L ++ txI 16 = T ++ namT L := by
      unfold namT
      simp only [List.append_assoc]
    rw [eT] at Q2
    have c2 := Q2.2.1.2.1
    exact K d2 L (by omega) ⟨⟨N, M, E, F, R2⟩, Q2.1, hP.nam (by omega) hc (by omega)⟩ (by omega)
  | succ m ih =>
    intro j d L hj ⟨N, M, E, F, R⟩ B hl hc hd hd0
    have hp := pq_lt (X := X) (k := 70 + 8 * kk + j) (n := 26) (by omega)
    rw [E_X12_grown_235]
    refine Aok.b (pkE hX (k := 60 + kk) (n := 5) (by omega) (by omega) (by rw [iI_a]; rfl) rfl) ?_
    refine Aok.f (by rw [xI_lt (by omega) (by omega) (by omega) (by omega)]; omega) ?_
    refine Aok.b (pkE hX (k := 70 + 8 * kk + j) (n := 26) (by omega) (by omega) (by rw [iI_m, iI_a, iI_a]; rfl) rfl) ?_
    have hl15 : (T ++ txI 15 ++ L).length ≤ 300 := by
      rw [List.length_append, List.length_append, show (txI 15).length = 5 from rfl]
      omega
    refine (TB.st B hl15).ch (z := 97 + pkV X (70 + 8 * kk + j) 26) (by omega) (chr_e _ hp) (by omega) (by omega) (fun d2 Q2 => ?_)
    have R2 := Q2.pw B R
    have c2 := Q2.2.1.2.1
    refine Aok.b (fr_at R2.1 rfl) ?_
    obtain ⟨d3, q3, E3, a3⟩ := naA (d := d2) (q := 3) (by omega) (by omega)
    refine Aok.b q3 ?_
    obtain ⟨d4, q4, E4, a4⟩ := wA E3 (Nat.le_refl _) a3 0 (by omega) (by omega) (iI (pkV X (70 + 8 * kk + j) 26))
    refine Aok.b q4 ?_
    obtain ⟨d5, q5, E5, a5⟩ := wA E4 (Nat.le_refl _) a4 1 (by omega) (by omega) (iI 0)
    refine Aok.b q5 ?_
    obtain ⟨d6, q6, E6, a6⟩ := wA E5 (Nat.le_refl _) a5 2 (by omega) (by omega) (iI 0)
    refine Aok.b q6 ?_
    have R6 := R2.ext E6
    have B6 := Q2.1.ext E6
    have c6 := E6.2.1
    refine Aok.b (rk_at (R6.2.2.1 1 (by omega)).1) ?_
    have hn1 : (namU u L).1 1 = u.1 1 + L.length := nam_n
    obtain ⟨d7, M', E', F', q7, R7, z1, z2, z3⟩ := PW.add (X := X) (k := 1) (u' := namU u (L ++ [((97 + pkV X (70 + 8 * kk + j) 26 : Nat) : Int)])) R6 (by omega) (by omega) a6 (fun i hi => by
      obtain ⟨ff, aa, -⟩ := R2.2.2.2.2.2.2.1 i hi
      have := aa.1
      show F 2 i ≠ d2.1
      omega) (by omega) (by rw [nam_n, nam_n, List.length_append]; rfl) (fun i hi => (nam_i hi).trans (nam_i hi).symm) ((nam_o (by omega)).trans (nam_o (by omega)).symm) ((nam_o (by omega)).trans (nam_o (by omega)).symm) (fun _ c c1 c2 => (nam_o (by omega)).trans (nam_o (by omega)).symm) (fun h => absurd rfl h) (fun h => by omega) (fun _ => by
        refine ⟨rfl, fun i hi c c1 c2 => ?_, ?_, ?_, ?_⟩
        · rw [nam_n] at hi
          rcases (show c = 5 ∨ c = 6 ∨ c = 7 by omega) with rfl | rfl | rfl
          · rw [nam_5, nam_5]
            by_cases h : u.1 1 ≤ i
            · rw [if_pos h, if_pos h, getD_f (by omega)]
            · rw [if_neg h, if_neg h]
          · rw [nam_67 (Or.inl rfl), nam_67 (Or.inl rfl)]
          · rw [nam_67 (Or.inr rfl), nam_67 (Or.inr rfl)]
        · rw [nam_5, nam_n, if_pos (by omega), show u.1 1 + L.length - u.1 1 = L.length by omega, getD_l]
          show iI (pkV X (70 + 8 * kk + j) 26) = _
          congr 1
          omega
        · rw [nam_67 (Or.inl rfl), nam_n, if_pos (by omega)]
          rfl
        · rw [nam_67 (Or.inr rfl), nam_n, if_pos (by omega)]
          rfl)
    refine Aok.b q7 ?_
    rw [iS]
    refine ih (j + 1) d7 (L ++ [((97 + pkV X (70 + 8 * kk + j) 26 : Nat) : Int)]) (by omega) ⟨N, M', E', F', R7⟩ (by rw [← List.append_assoc]; exact z3 _ _ B6) (by rw [List.length_append]; show L.length + 1 = j + 1; omega) (fun i hi => ?_) (by omega) hd0
    rw [List.length_append] at hi
    have hi : i < L.length + 1 := hi
    by_cases h : i < L.length
    · rw [getD_f h]
      exact hc i h
    · rw [show i = L.length by omega, getD_l]
      omega
theorem len_n (h : L.length ≤ 5) : (namT L).length ≤ 11 := by
  have hlen : (namT L).length = 5 + (L.length + 1) := by
    unfold namT
    simp only [List.length_append]
    rfl
  omega
theorem n214 {a b c k p q r : Nat} (h1 : a ≤ b + p) (h2 : b ≤ c + 803) (h3 : c ≤ q + r * k) (h4 : p + 803 ≤ r) : a ≤ q + r * (k + 1) := by
  rw [Nat.mul_add, Nat.mul_one]
  generalize r * k = z at h3 ⊢
  omega
/-- names -/
theorem g214 (hX : X.1 < 2147483648) : ∀ (m k : Nat) (d : dm_D) (u : pv_T) (T : List Int) (n : Nat), k + m = pkV X 2 3 → GS d w b u T g n → u.1 1 ≤ 5 * k → u.1 2 = 0 → T.length ≤ 130 + 11 * k → d.2.1 ≤ 50000 + 10000 * k → n ≤ 40 + k → g = (false, false, false) → Aok GP (F_X12_grown_214 X (.inl 4, 3) (.inl 0, w) (.inl 0, b) (iI k) d) := by
  have hL := dm_L6
  have h3 := pq_lt (X := X) (k := 2) (n := 3) (by omega)
  intro m
  induction m with
  | zero =>
    intro k d u T n hk G hu1 hu2 hT hc hn hg
    rw [E_X12_grown_214]
    refine Aok.b (pkE hX (k := 2) (n := 3) (by omega) (by omega) rfl rfl) ?_
    refine Aok.t (by rw [xI_le (by omega) (by omega) (by omega) (by omega)]; omega) ?_
    exact g328 hX 3 0 d u T n rfl G hu2 (by omega) (by omega) (by omega) hg
  | succ m ih =>
    intro k d u T n hk G hu1 hu2 hT hc hn hg
    obtain ⟨⟨N, M, E, F, R⟩, B, hP⟩ := G
    have hcc : d.2.1 ≤ 90000 := by omega
    rw [E_X12_grown_214]
    refine Aok.b (pkE hX (k := 2) (n := 3) (by omega) (by omega) rfl rfl) ?_
    refine Aok.f (by rw [xI_le (by omega) (by omega) (by omega) (by omega)]; omega) ?_
    refine (TB.st B (m := 200) (by omega)).s (t := 15) (by omega) (by omega) (by omega) (fun d2 Q2 => ?_)
    have R2 := Q2.pw B R
    have c2 := Q2.2.1.2.1
    refine g235 (d0 := d2) hX (kk := k) (by omega) hP (by omega) (by omega) (fun d' L' hl G' hc' => ?_) (pkV X (60 + k) 5 + 1) 0 d2 [] (Nat.zero_add _) ⟨N, M, E, F, R2.n0⟩ (by rw [List.append_nil]; exact Q2.1) rfl (fun i hi => absurd hi (Nat.not_lt_zero i)) (by omega) (by omega)
    rw [iS]
    have hl' := len_n (L := L') hl.2
    refine ih (k + 1) d' _ _ (n + 1) (by omega) G' ?_ ?_ ?_ (n214 hc' (show d2.2.1 ≤ d.2.1 + 803 by omega) hc (Nat.le_of_ble_eq_true rfl)) (by omega) hg
    · rw [nam_n]
      omega
    · rw [nam_i (by omega)]
      exact hu2
    · rw [List.length_append]
      omega
end GRN
