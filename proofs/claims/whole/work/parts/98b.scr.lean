/-! scripts: what they are -/
abbrev SC : Type := Nat × (Nat → Int) × (Nat → Int)
def dep (kd : Nat → Int) : Nat → Nat
  | 0 => 0
  | k + 1 => if kd k = 6 then dep kd k + 1 else if kd k = 7 then dep kd k - 1 else dep kd k
def stk' (kd : Nat → Int) : Nat → Nat → Nat
  | 0, _ => 0
  | k + 1, j => if kd k = 6 then (if j = dep kd k then k else stk' kd k j) else stk' kd k j
theorem dep_6 {kd : Nat → Int} {k : Nat} (h : kd k = 6) : dep kd (k + 1) = dep kd k + 1 := if_pos h
theorem dep_7 {kd : Nat → Int} {k : Nat} (h : kd k = 7) : dep kd (k + 1) = dep kd k - 1 := (if_neg (by omega)).trans (if_pos h)
theorem dep_o {kd : Nat → Int} {k : Nat} (h : kd k ≠ 6) (h' : kd k ≠ 7) : dep kd (k + 1) = dep kd k := (if_neg h).trans (if_neg h')
theorem stk_6 {kd : Nat → Int} {k j : Nat} (h : kd k = 6) : stk' kd (k + 1) j = if j = dep kd k then k else stk' kd k j := if_pos h
theorem stk_o {kd : Nat → Int} {k j : Nat} (h : kd k ≠ 6) : stk' kd (k + 1) j = stk' kd k j := if_neg h
/-- what is open at k: repeats, each open behind itself as it was -/
theorem stk_p {kd : Nat → Int} : ∀ (k : Nat) {j : Nat}, j < dep kd k → stk' kd k j < k ∧ kd (stk' kd k j) = 6 ∧ dep kd (stk' kd k j + 1) = j + 1 ∧ ∀ i, i ≤ j → stk' kd (stk' kd k j + 1) i = stk' kd k i
  | 0, j, h => absurd h (Nat.not_lt_zero j)
  | k + 1, j, h => by
    by_cases c : kd k = 6
    · rw [dep_6 c] at h
      by_cases d : j = dep kd k
      · have e : stk' kd (k + 1) j = k := by rw [stk_6 c, if_pos d]
        rw [e]
        exact ⟨by omega, c, by rw [dep_6 c]; omega, fun i hi => rfl⟩
      · have e : stk' kd (k + 1) j = stk' kd k j := by rw [stk_6 c, if_neg d]
        obtain ⟨a1, a2, a3, a4⟩ := stk_p (kd := kd) k (j := j) (by omega)
        rw [e]
        exact ⟨by omega, a2, a3, fun i hi => by rw [a4 i hi, stk_6 c, if_neg (by omega)]⟩
    · have hj : j < dep kd k := by
        by_cases d : kd k = 7
        · rw [dep_7 d] at h; omega
        · rw [dep_o c d] at h; exact h
      obtain ⟨a1, a2, a3, a4⟩ := stk_p (kd := kd) k hj
      rw [stk_o c]
      exact ⟨by omega, a2, a3, fun i hi => by rw [a4 i hi, stk_o c]⟩
/-- one step more -/
def scP (S : SC) (c n : Int) : SC := (S.1 + 1, fu S.2.1 S.1 c, fu S.2.2 S.1 n)
theorem dep_cg {kd kd' : Nat → Int} : ∀ {k : Nat}, (∀ i, i < k → kd' i = kd i) → dep kd' k = dep kd k ∧ ∀ j, stk' kd' k j = stk' kd k j
  | 0, _ => ⟨rfl, fun _ => rfl⟩
  | k + 1, h => by
    obtain ⟨a, b⟩ := dep_cg (kd := kd) (kd' := kd') (k := k) (fun i hi => h i (by omega))
    have e := h k (by omega)
    refine ⟨?_, fun j => ?_⟩
    · show (if kd' k = 6 then dep kd' k + 1 else if kd' k = 7 then dep kd' k - 1 else dep kd' k) = (if kd k = 6 then dep kd k + 1 else if kd k = 7 then dep kd k - 1 else dep kd k)
      rw [e, a]
    · show (if kd' k = 6 then (if j = dep kd' k then k else stk' kd' k j) else stk' kd' k j) = (if kd k = 6 then (if j = dep kd k then k else stk' kd k j) else stk' kd k j)
      rw [e, a, b]
abbrev scD (S : SC) : Nat := dep S.2.1 S.1
abbrev scT (S : SC) (j : Nat) : Nat := stk' S.2.1 S.1 j
def sc_at (S : SC) (k : Nat) : Prop := (0 ≤ S.2.1 k ∧ S.2.1 k ≤ 7) ∧ (S.2.1 k = 6 → dep S.2.1 k < 2 ∧ 1 ≤ S.2.2 k ∧ S.2.2 k ≤ 20) ∧ (S.2.1 k = 7 → 0 < dep S.2.1 k ∧ S.2.2 k = stk' S.2.1 k (dep S.2.1 k - 1)) ∧ (S.2.1 k ≠ 1 → S.2.1 k ≠ 6 → S.2.1 k ≠ 7 → 0 ≤ S.2.2 k ∧ S.2.2 k ≤ 999)
/-- a script with c commands read -/
def sc_ok (S : SC) (c : Nat) : Prop := c ≤ 30 ∧ S.1 + scD S ≤ 2 * c ∧ scD S ≤ 2 ∧ ∀ k, k < S.1 → sc_at S k
theorem scP_lt {S : SC} {c n : Int} {k : Nat} (h : k < S.1) : (scP S c n).2.1 k = S.2.1 k ∧ (scP S c n).2.2 k = S.2.2 k := ⟨fu_o (by omega), fu_o (by omega)⟩
theorem scP_s {S : SC} {c n : Int} : (scP S c n).2.1 S.1 = c ∧ (scP S c n).2.2 S.1 = n := ⟨fu_s, fu_s⟩
theorem scP_dep {S : SC} {c n : Int} {k : Nat} (h : k ≤ S.1) : dep (scP S c n).2.1 k = dep S.2.1 k ∧ ∀ j, stk' (scP S c n).2.1 k j = stk' S.2.1 k j := dep_cg (fun i hi => (scP_lt (by omega)).1)
theorem scP_D6 {S : SC} {n : Int} : scD (scP S 6 n) = scD S + 1 := by
  show dep (scP S 6 n).2.1 (S.1 + 1) = _
  rw [dep_6 scP_s.1, (scP_dep (Nat.le_refl _)).1]
theorem scP_D7 {S : SC} {n : Int} : scD (scP S 7 n) = scD S - 1 := by
  show dep (scP S 7 n).2.1 (S.1 + 1) = _
  rw [dep_7 scP_s.1, (scP_dep (Nat.le_refl _)).1]
theorem scP_Do {S : SC} {c n : Int} (h6 : c ≠ 6) (h7 : c ≠ 7) : scD (scP S c n) = scD S := by
  show dep (scP S c n).2.1 (S.1 + 1) = _
  rw [dep_o (by rw [scP_s.1]; exact h6) (by rw [scP_s.1]; exact h7), (scP_dep (Nat.le_refl _)).1]
theorem scP_T {S : SC} {c n : Int} {j : Nat} (h : c ≠ 6 ∨ j ≠ scD S) : scT (scP S c n) j = scT S j := by
  show stk' (scP S c n).2.1 (S.1 + 1) j = _
  by_cases d : c = 6
  · rw [stk_6 (by rw [scP_s.1]; exact d), (scP_dep (Nat.le_refl _)).1, if_neg (by rcases h with h | h; exact absurd d h; exact h), (scP_dep (Nat.le_refl _)).2]
  · rw [stk_o (by rw [scP_s.1]; exact d), (scP_dep (Nat.le_refl _)).2]
theorem scP_T6 {S : SC} {n : Int} : scT (scP S 6 n) (scD S) = S.1 := by
  show stk' (scP S 6 n).2.1 (S.1 + 1) (scD S) = _
  rw [stk_6 scP_s.1, (scP_dep (Nat.le_refl _)).1, if_pos rfl]
theorem sc_at_P {S : SC} {c n : Int} {k : Nat} (h : k < S.1) (a : sc_at S k) : sc_at (scP S c n) k := by
  unfold sc_at at *
  rw [(scP_lt h).1, (scP_lt h).2, (scP_dep (show k ≤ S.1 by omega)).1, (scP_dep (show k ≤ S.1 by omega)).2]
  exact a
theorem scP_ok6 {S : SC} {c : Nat} {n : Int} (h : sc_ok S c) (hc : c < 30) (hd : scD S < 2) (hn : 1 ≤ n ∧ n ≤ 20) : sc_ok (scP S 6 n) (c + 1) := by
  obtain ⟨h1, h2, h3, h4⟩ := h
  refine ⟨by omega, ?_, ?_, fun k hk => ?_⟩
  · rw [scP_D6]; show S.1 + 1 + (scD S + 1) ≤ _; omega
  · rw [scP_D6]; omega
  · have hk' : k < S.1 + 1 := hk
    by_cases d : k = S.1
    · subst d
      unfold sc_at
      rw [scP_s.1, scP_s.2, (scP_dep (Nat.le_refl _)).1]
      exact ⟨by omega, fun _ => ⟨hd, hn⟩, fun z => absurd z (by omega), fun _ z => absurd rfl z⟩
    · exact sc_at_P (by omega) (h4 k (by omega))
theorem scP_okC {S : SC} {c : Nat} {q n : Int} (h : sc_ok S c) (hc : c < 30) (hq : 0 ≤ q ∧ q ≤ 5) (hn : q ≠ 1 → 0 ≤ n ∧ n ≤ 999) : sc_ok (scP S q n) (c + 1) := by
  obtain ⟨h1, h2, h3, h4⟩ := h
  refine ⟨by omega, ?_, ?_, fun k hk => ?_⟩
  · rw [scP_Do (by omega) (by omega)]; show S.1 + 1 + scD S ≤ _; omega
  · rw [scP_Do (by omega) (by omega)]; exact h3
  · have hk' : k < S.1 + 1 := hk
    by_cases d : k = S.1
    · subst d
      unfold sc_at
      rw [scP_s.1, scP_s.2, (scP_dep (Nat.le_refl _)).1]
      exact ⟨by omega, fun z => absurd z (by omega), fun z => absurd z (by omega), fun z _ _ => hn z⟩
    · exact sc_at_P (by omega) (h4 k (by omega))
theorem scP_ok7 {S : SC} {c : Nat} (h : sc_ok S c) (hd : 0 < scD S) : sc_ok (scP S 7 (scT S (scD S - 1))) c := by
  obtain ⟨h1, h2, h3, h4⟩ := h
  refine ⟨h1, ?_, ?_, fun k hk => ?_⟩
  · rw [scP_D7]; show S.1 + 1 + (scD S - 1) ≤ _; omega
  · rw [scP_D7]; omega
  · have hk' : k < S.1 + 1 := hk
    by_cases d : k = S.1
    · subst d
      unfold sc_at
      rw [scP_s.1, scP_s.2, (scP_dep (Nat.le_refl _)).1, (scP_dep (Nat.le_refl _)).2]
      exact ⟨by omega, fun z => absurd z (by omega), fun _ => ⟨hd, rfl⟩, fun _ _ z => absurd rfl z⟩
    · exact sc_at_P (by omega) (h4 k (by omega))
/-! scripts read -/
def cmdT (b : bfT) (T : Tk) : Int := if isW b T 9 = true then 0 else if isW b T 10 = true then 1 else if isW b T 11 = true then 2 else if isW b T 12 = true then 3 else if isW b T 13 = true then 4 else if isW b T 6 = true then 5 else if isW b T 14 = true then 6 else -1
theorem cmdT_b (b : bfT) (T : Tk) : -1 ≤ cmdT b T ∧ cmdT b T ≤ 6 := by
  unfold cmdT
  (repeat' split) <;> omega
theorem cmdT_1 {b : bfT} {T : Tk} (h : cmdT b T ≠ -1) : T.1 = 1 := by
  by_cases c : T.1 = 1
  · exact c
  · exfalso
    apply h
    have z : ∀ t, ¬ isW b T t = true := fun t e => c (isW_1 e)
    unfold cmdT
    rw [if_neg (z 9), if_neg (z 10), if_neg (z 11), if_neg (z 12), if_neg (z 13), if_neg (z 6), if_neg (z 14)]
def sCom (b : bfT) (S : SC) (c : Nat) (T : Tk) : Rs (SC × Nat × Tk) :=
  if cmdT b T = -1 then .inl (1, (T.2.1 : Int)) else if cmdT b T = 6 ∧ 2 ≤ scD S then .inl (3, (T.2.1 : Int)) else if 30 ≤ c then .inl (5, (T.2.1 : Int)) else
  if cmdT b T = 6 then (sNum b (tkA b T.2.2) 1 20).bd (fun x => (sSign b x.2 40).bd (fun T' => .inr (scP S 6 x.1, c + 1, T')))
  else if cmdT b T = 1 then (sSign b (tkA b T.2.2) 59).bd (fun T' => .inr (scP S 1 0, c + 1, T'))
  else (sNum b (tkA b T.2.2) 0 999).bd (fun x => (sSign b x.2 59).bd (fun T' => .inr (scP S (cmdT b T) x.1, c + 1, T')))
def sEnd (b : bfT) (S : SC) (c : Nat) (T : Tk) : Rs (SC × Nat × Tk) := (sSign b (tkA b T.2.2) 59).bd (fun T' => .inr (scP S 7 (scT S (scD S - 1)), c, T'))
abbrev clo (b : bfT) (S : SC) (T : Tk) : Prop := 0 < scD S ∧ T.1 = 3 ∧ b.2 T.2.1 = 41
def sFin (S : SC) (T : Tk) : Rs SC := if scD S = 0 then .inr S else .inl (1, (T.2.1 : Int))
def sScr (b : bfT) : Nat → SC → Nat → Tk → Rs SC
  | 0, S, _, T => sFin S T
  | n + 1, S, c, T => if T.1 = 0 then sFin S T else (if clo b S T then sEnd b S c T else sCom b S c T).bd (fun x => sScr b n x.1 x.2.1 x.2.2)
theorem sCom_ok {b : bfT} {S : SC} {c : Nat} {T : Tk} {x : SC × Nat × Tk} (hT : tk_ok b T) (hS : sc_ok S c) (e : sCom b S c T = .inr x) : sc_ok x.1 x.2.1 ∧ tk_ok b x.2.2 ∧ T.2.1 < x.2.2.2.1 := by
  have hA := adv_ok hT
  have hq := cmdT_b b T
  unfold sCom at e
  split at e
  · cases e
  next c1 =>
    split at e
    · cases e
    next c2 =>
      split at e
      · cases e
      next c3 =>
        split at e
        next c4 =>
          obtain ⟨x1, e1, e⟩ := Rs.bd_r e
          obtain ⟨T2, e2, e⟩ := Rs.bd_r e
          cases e
          have q1 := sNum_ok hA.1 e1
          have q2 := sSign_ok q1.1 e2
          exact ⟨scP_ok6 hS (by omega) (by omega) ⟨q1.2.2.1, q1.2.2.2⟩, q2.1, by show T.2.1 < T2.2.1; omega⟩
        next c4 =>
          split at e
          next c5 =>
            obtain ⟨T2, e2, e⟩ := Rs.bd_r e
            cases e
            have q2 := sSign_ok hA.1 e2
            exact ⟨scP_okC hS (by omega) (by omega) (fun z => absurd rfl z), q2.1, by show T.2.1 < T2.2.1; omega⟩
          next c5 =>
            obtain ⟨x1, e1, e⟩ := Rs.bd_r e
            obtain ⟨T2, e2, e⟩ := Rs.bd_r e
            cases e
            have q1 := sNum_ok hA.1 e1
            have q2 := sSign_ok q1.1 e2
            exact ⟨scP_okC hS (by omega) (by omega) (fun _ => ⟨q1.2.2.1, q1.2.2.2⟩), q2.1, by show T.2.1 < T2.2.1; omega⟩
theorem sEnd_ok {b : bfT} {S : SC} {c : Nat} {T : Tk} {x : SC × Nat × Tk} (hT : tk_ok b T) (hS : sc_ok S c) (hd : 0 < scD S) (e : sEnd b S c T = .inr x) : sc_ok x.1 x.2.1 ∧ tk_ok b x.2.2 ∧ T.2.1 < x.2.2.2.1 := by
  have hA := adv_ok hT
  unfold sEnd at e
  obtain ⟨T2, e2, e⟩ := Rs.bd_r e
  cases e
  have q2 := sSign_ok hA.1 e2
  exact ⟨scP_ok7 hS hd, q2.1, by show T.2.1 < T2.2.1; omega⟩
theorem sScr_ok {b : bfT} : ∀ (n : Nat) {S : SC} {c : Nat} {T : Tk} {x : SC}, tk_ok b T → sc_ok S c → sScr b n S c T = .inr x → ∃ c', sc_ok x c'
  | 0, S, c, T, x, hT, hS, e => by
    unfold sScr sFin at e
    split at e
    · cases e; exact ⟨c, hS⟩
    · cases e
  | n + 1, S, c, T, x, hT, hS, e => by
    unfold sScr at e
    split at e
    · unfold sFin at e
      split at e
      · cases e; exact ⟨c, hS⟩
      · cases e
    · obtain ⟨x1, e1, e⟩ := Rs.bd_r e
      split at e1
      next d =>
        have q := sEnd_ok hT hS d.1 e1
        exact sScr_ok n q.2.1 q.1 e
      next d =>
        have q := sCom_ok hT hS e1
        exact sScr_ok n q.2.1 q.1 e
