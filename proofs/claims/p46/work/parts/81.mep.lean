/-! mend, polish -/
/-- of the first n, those that p holds of, in their order -/
def fl (p : Nat → Bool) (f : Nat → Int) : Nat → Nat → Int
  | 0, _ => 0
  | n + 1, j => if p n = true then (if j = cN p n then f n else fl p f n j) else fl p f n j
theorem fl_t {p : Nat → Bool} {f : Nat → Int} {n j : Nat} (h : p n = true) : fl p f (n + 1) j = if j = cN p n then f n else fl p f n j := if_pos h
theorem fl_f {p : Nat → Bool} {f : Nat → Int} {n j : Nat} (h : p n = false) : fl p f (n + 1) j = fl p f n j := if_neg (by rw [h]; decide)
theorem cN_mono {p : Nat → Bool} {i n : Nat} (h : i ≤ n) : cN p i ≤ cN p n := by
  induction n with
  | zero => have : i = 0 := by omega
            subst this; exact Nat.le_refl _
  | succ n ih =>
    by_cases e : i = n + 1
    · subst e; exact Nat.le_refl _
    · have := ih (by omega)
      cases c : p n with
      | true => rw [cN_t c]; omega
      | false => rw [cN_f c]; exact this
theorem cN_lip {p : Nat → Bool} {i n : Nat} (h : i ≤ n) : cN p n ≤ cN p i + (n - i) := by
  induction n with
  | zero => exact Nat.zero_le _
  | succ n ih =>
    by_cases e : i = n + 1
    · subst e; omega
    · have := ih (by omega)
      cases c : p n with
      | true => rw [cN_t c]; omega
      | false => rw [cN_f c]; omega
theorem fl_at {p : Nat → Bool} {f : Nat → Int} {i n : Nat} (hi : i < n) (h : p i = true) : fl p f n (cN p i) = f i := by
  induction n with
  | zero => omega
  | succ n ih =>
    by_cases e : i = n
    · subst e; rw [fl_t h, if_pos rfl]
    · have e1 := ih (by omega)
      cases c : p n with
      | true =>
        rw [fl_t c, if_neg, e1]
        have h1 := cN_mono (p := p) (i := i + 1) (n := n) (by omega)
        rw [cN_t h] at h1
        omega
      | false => rw [fl_f c, e1]
theorem fl_ex {p : Nat → Bool} {n j : Nat} (h : j < cN p n) : ∃ i, i < n ∧ p i = true ∧ ∀ f, fl p f n j = f i := by
  induction n with
  | zero => exact absurd h (Nat.not_lt_zero j)
  | succ n ih =>
    cases c : p n with
    | true =>
      rw [cN_t c] at h
      by_cases d : j = cN p n
      · exact ⟨n, by omega, c, fun f => by rw [fl_t c, if_pos d]⟩
      · obtain ⟨i, a, b, e⟩ := ih (by omega)
        exact ⟨i, by omega, b, fun f => by rw [fl_t c, if_neg d, e]⟩
    | false =>
      rw [cN_f c] at h
      obtain ⟨i, a, b, e⟩ := ih h
      exact ⟨i, by omega, b, fun f => by rw [fl_f c, e]⟩
/-- scratches of other letters -/
abbrev oth (v : pv_T) (l : Nat) : Nat → Bool := fun i => decide (v.2 12 i ≠ (l : Int))
def fltS (v : pv_T) (l : Nat) : pv_T := (fun k => if k = 3 then cN (oth v l) (v.1 3) else v.1 k, fun c i => if c = 12 ∨ c = 13 then fl (oth v l) (v.2 c) (v.1 3) i else v.2 c i)
/-- what the reference has with those from i on looked at -/
def drI (v : pv_T) (l i : Nat) : pv_T := (fun k => if k = 3 then i + (cN (oth v l) (v.1 3) - cN (oth v l) i) else v.1 k, fun c j => if c = 12 ∨ c = 13 then (if j < i then v.2 c j else fl (oth v l) (v.2 c) (v.1 3) (cN (oth v l) i + (j - i))) else v.2 c j)
theorem drI_at {v : pv_T} {l i c j : Nat} (hc : c = 12 ∨ c = 13) (h : j < i) : (drI v l i).2 c j = v.2 c j := (if_pos hc).trans (if_pos h)
theorem drI_0 {v : pv_T} {l : Nat} : drI v l 0 = fltS v l := by
  unfold drI fltS
  have e : ∀ j, cN (oth v l) 0 + (j - 0) = j := fun j => by show 0 + (j - 0) = j; omega
  have e0 : 0 + (cN (oth v l) (v.1 3) - cN (oth v l) 0) = cN (oth v l) (v.1 3) := by show 0 + (_ - 0) = _; omega
  rw [e0]
  congr 1
  funext c j
  rw [e]
  by_cases d : c = 12 ∨ c = 13
  · rw [if_pos d, if_pos d, if_neg (Nat.not_lt_zero j)]
  · rw [if_neg d, if_neg d]
theorem drI_t {v : pv_T} {l i : Nat} (hi : i < v.1 3) (h : oth v l i = true) : drI v l (i + 1) = drI v l i := by
  have hm := cN_mono (p := oth v l) (i := i + 1) (n := v.1 3) (by omega)
  have h1 := cN_t h
  unfold drI
  congr 1
  · funext k
    by_cases c : k = 3
    · rw [if_pos c, if_pos c, h1]; omega
    · rw [if_neg c, if_neg c]
  · funext c j
    by_cases d : c = 12 ∨ c = 13
    · rw [if_pos d, if_pos d]
      by_cases e : j < i
      · rw [if_pos e, if_pos (by omega)]
      · rw [if_neg e]
        by_cases g : j = i
        · subst g
          rw [if_pos (by omega), Nat.sub_self, Nat.add_zero, fl_at hi h]
        · rw [if_neg (by omega), h1, show cN (oth v l) i + 1 + (j - (i + 1)) = cN (oth v l) i + (j - i) from by omega]
    · rw [if_neg d, if_neg d]
theorem drI_f {v : pv_T} {l i : Nat} (hi : i < v.1 3) (h : oth v l i = false) : dropS (drI v l (i + 1)) i = drI v l i := by
  have hm := cN_mono (p := oth v l) (i := i + 1) (n := v.1 3) (by omega)
  have h1 := cN_f h
  unfold dropS drI
  congr 1
  · funext k
    dsimp only
    by_cases c : k = 3
    · rw [if_pos c, if_pos c, if_pos rfl, h1]; omega
    · rw [if_neg c, if_neg c, if_neg c]
  · funext c j
    dsimp only
    by_cases d : c = 12 ∨ c = 13
    · rw [if_pos d, if_pos d, if_pos d, if_pos d]
      by_cases e : j < i
      · rw [if_pos e, if_pos e, if_pos (by omega)]
      · rw [if_neg e, if_neg e, if_neg (by omega), h1, show j + 1 - (i + 1) = j - i from by omega]
    · rw [if_neg d, if_neg d, if_neg d]
theorem pu_row {v : pv_T} {c i d : Nat} {x : Int} (h : d ≠ c) : (pu v c i x).2 d = v.2 d := by funext j; exact pu_o h
theorem flt_pu {v : pv_T} {l c i : Nat} {x : Int} (h : c ≠ 12) (h' : c ≠ 13) : fltS (pu v c i x) l = pu (fltS v l) c i x := by
  have e : oth (pu v c i x) l = oth v l := by
    show (fun i' => decide ((pu v c i x).2 12 i' ≠ (l : Int))) = _
    rw [pu_row (by omega)]
  unfold fltS
  rw [e]
  show (_, _) = ((_, _) : pv_T)
  congr 1
  funext d j
  by_cases g : d = 12 ∨ d = 13
  · rw [if_pos g, pu_row (by omega)]
    show _ = (if d = c then (if j = i then x else _) else (if d = 12 ∨ d = 13 then _ else _))
    rw [if_neg (by omega), if_pos g]
    rfl
  · rw [if_neg g]
    show (if d = c then (if j = i then x else _) else _) = (if d = c then (if j = i then x else (if d = 12 ∨ d = 13 then _ else _)) else (if d = 12 ∨ d = 13 then _ else _))
    rw [if_neg g]
/-- what a polished letter, a mended scratch leave -/
def poV (v : pv_T) (l : Nat) : pv_T := fltS (pu (pu v 6 l 0) 7 l (v.2 7 l + 1)) l
def meV (v : pv_T) (s : Nat) : pv_T := dropS (pu v 7 (v.2 12 s).toNat (v.2 7 (v.2 12 s).toNat + 1)) s
theorem fltS_D {v : pv_T} {l : Nat} : sameD v (fltS v l) := ⟨rfl, rfl, rfl, fun c _ _ h h' => by funext i; exact if_neg (fun z => z.elim h h')⟩
theorem poV_D {v : pv_T} {l : Nat} : sameD v (poV v l) := ((pu_D (Or.inl rfl)).tr (pu_D (Or.inr rfl))).tr fltS_D
theorem meV_D {v : pv_T} {s : Nat} : sameD v (meV v s) := (pu_D (Or.inr rfl)).tr dropS_D
theorem meV_A {v : pv_T} {s : Nat} (hv : pvA v) (hs : s < v.1 3) (hm : v.2 7 (v.2 12 s).toNat < 3) : pvA (meV v s) := by
  have h8 := hv.1.1
  refine pvA_D meV_D (fun i hi => ?_) ?_ (fun i hi => ?_) hv
  · have g3 := hv.1.2.2.1 i hi
    unfold meV
    rw [dropS_c (by omega) (by omega), dropS_c (by omega) (by omega), pu_o (by omega)]
    refine ⟨g3.2.2.1, g3.2.2.2.1, ?_⟩
    by_cases c : i = (v.2 12 s).toNat
    · subst c
      rw [pu_s]; omega
    · rw [pu_i c]; omega
  · show v.1 3 - 1 ≤ 44; omega
  · have hi' : i < v.1 3 - 1 := hi
    unfold meV
    rw [dropS_s (Or.inl rfl), dropS_s (Or.inr rfl), pu_row (by omega), pu_row (by omega)]
    by_cases c : i < s
    · rw [if_pos c, if_pos c]; exact hv.1.2.2.2.2.2.1 i (by omega)
    · rw [if_neg c, if_neg c]; exact hv.1.2.2.2.2.2.1 (i + 1) (by omega)
theorem poV_A {v : pv_T} {l : Nat} (hv : pvA v) (hl : l < v.1 1) (hm : v.2 7 l < 3) : pvA (poV v l) := by
  have h8 := hv.1.1
  have hc := cN_le (oth v l) (v.1 3)
  have e : poV v l = pu (pu (fltS v l) 6 l 0) 7 l (v.2 7 l + 1) := by unfold poV; rw [flt_pu (by omega) (by omega), flt_pu (by omega) (by omega)]
  refine pvA_D poV_D (fun i hi => ?_) ?_ (fun i hi => ?_) hv
  · have g3 := hv.1.2.2.1 i hi
    have g3l := hv.1.2.2.1 l hl
    rw [e, pu_o (by omega)]
    by_cases c : i = l
    · subst c
      rw [pu_s, pu_s]; omega
    · rw [pu_i c, pu_i c, pu_o (by omega)]
      exact g3.2.2
  · rw [e]; show cN (oth v l) (v.1 3) ≤ 44; omega
  · rw [e] at hi ⊢
    have hi' : i < cN (oth v l) (v.1 3) := hi
    obtain ⟨q, q1, q2, q3⟩ := fl_ex hi'
    rw [pu_o (by omega), pu_o (by omega), pu_o (by omega), pu_o (by omega)]
    have e12 : (fltS v l).2 12 i = v.2 12 q := q3 _
    have e13 : (fltS v l).2 13 i = v.2 13 q := q3 _
    rw [e12, e13]
    exact hv.1.2.2.2.2.2.1 q q1
section MEP
variable {h : am_H} {st : St} {v : pv_T} {k : Nat}
theorem k_mendScratch (hv : pv_ok v) {s j : Nat} (hs : s < v.1 3) (ej : v.2 12 s = (j : Int)) (R : cl_pl h k v) : ∃ h', f_X5_mendScratch k (iI s) h = some (iI ((v.1 3 - 1 : Nat) : Int), h') ∧ cl_pl h' k (dropS (pu v 7 j (v.2 7 j + 1)) s) := by
  have h8 := hv.1
  have g6 := hv.2.2.2.2.2.1 s hs
  have hj : j < v.1 1 := by omega
  have g3 := hv.2.2.1 j hj
  have q18 := (R.2.2.2.2.1.2 s hs).1
  rw [ej] at q18
  have q9 := (R.2.1.2.1 j hj).2.2
  have R1 := R.pu7 (j := j) (x := v.2 7 j + 1)
  obtain ⟨h', e, S⟩ := k_remove (v := pu v 7 j (v.2 7 j + 1)) hs h8.2.2.2 R1.2.2.2.2.1
  have w := wr_X7_remove e
  refine ⟨h', ?_, R1.scr (fun o h1 h2 h3 => w.1 _ _ (by simp; omega)) (fun j hj => if_neg hj) (fun c h1 h2 => dropS_c h1 h2) S⟩
  unfold f_X5_mendScratch
  have e17 : h'.1 (.inr k) 17 2 = iI ((v.1 3 - 1 : Nat) : Int) := S.1
  simp (disch := omega) only [xI_le, xI_lt, xI_eq, xI_0, xI_ib, if_pos, if_neg, if_true, if_false, xI_cl, Int.toNat_natCast, iI_m, iI_a, iI_s, iI_1, xI_n, Option.bind_some, Int.natCast_add, Int.natCast_one, xI_zb, if_bI0, if_bI1, xI_rn, xI_ti, q18, q9, am_lt, e, e17]
theorem k_canMend (hv : pv_ok v) {s j : Nat} (hs : s < v.1 3) (ej : v.2 12 s = (j : Int)) (R : cl_pl h k v) : f_X5_canMend k (iI s) h = some (iI (bI (v.2 7 j < 3))) := by
  have h8 := hv.1
  have g6 := hv.2.2.2.2.2.1 s hs
  have hj : j < v.1 1 := by omega
  have g3 := hv.2.2.1 j hj
  have q18 := (R.2.2.2.2.1.2 s hs).1
  rw [ej] at q18
  have q9 := (R.2.1.2.1 j hj).2.2
  have ea := k_hasScratch hv R.2.2.2.2.1 (i := s) (by omega)
  rw [show bI (0 ≤ (s : Int) ∧ (s : Int) ≤ (v.1 3 : Int) - 1) = 1 from if_pos (by omega)] at ea
  unfold f_X5_canMend bI
  simp (disch := omega) only [xI_le, xI_lt, xI_eq, xI_0, xI_ib, if_pos, if_neg, if_true, if_false, xI_cl, Int.toNat_natCast, iI_m, iI_a, iI_s, iI_1, xI_n, Option.bind_some, Int.natCast_add, Int.natCast_one, xI_zb, if_bI0, if_bI1, xI_rn, xI_ti, ea, q18, q9]
  (repeat' split) <;> first | rfl | (exfalso; omega)
theorem k_canPolish (hv : pv_ok v) {j : Nat} (hj : j < v.1 1) (R : cl_pl h k v) : f_X5_canPolish k (iI j) h = some (iI (bI (v.2 6 j = 1 ∧ v.2 7 j < 3))) := by
  have h8 := hv.1
  have g3 := hv.2.2.1 j hj
  have q8 := (R.2.1.2.1 j hj).2.1
  have q9 := (R.2.1.2.1 j hj).2.2
  have ea := k_hasLetter hv R.2.1 (i := j) (by omega)
  rw [show bI (0 ≤ (j : Int) ∧ (j : Int) ≤ (v.1 1 : Int) - 1) = 1 from if_pos (by omega)] at ea
  unfold f_X5_canPolish bI
  simp (disch := omega) only [xI_le, xI_lt, xI_eq, xI_0, xI_ib, if_pos, if_neg, if_true, if_false, xI_cl, Int.toNat_natCast, iI_m, iI_a, iI_s, iI_1, xI_n, Option.bind_some, Int.natCast_add, Int.natCast_one, xI_zb, if_bI0, if_bI1, xI_rn, xI_ti, ea, q8, q9]
  (repeat' split) <;> first | rfl | (exfalso; omega)
theorem k_removeAllOf' {l : Nat} (h20 : v.1 1 ≤ 20) (h44 : v.1 3 ≤ 44) (hs : ∀ i, i < v.1 3 → 0 ≤ v.2 12 i ∧ v.2 12 i < v.1 1) (hl : l < v.1 1) (R : cl_sc h k v) : ∃ h', f_X7_removeAllOf k (iI l) h = some (iI ((v.1 3 : Int) - cN (oth v l) (v.1 3)), h') ∧ cl_sc h' k (fltS v l) := by
  obtain ⟨r1, r2⟩ := R
  obtain ⟨t, e1, p1, p2, p3⟩ := ch_rel (fun i t => f_X7_removeAllOf_4 k (iI l) (iI (cN (oth v l) i)) (iI i) t) (fun i t => t.1 (.inr k) 17 2 = iI (v.1 3) ∧ (∀ j, j < cN (oth v l) i → t.1 (.inr k) 18 j = iI (fl (oth v l) (v.2 12) i j) ∧ t.1 (.inr k) 19 j = iI (fl (oth v l) (v.2 13) i j)) ∧ (∀ j, i ≤ j → j < v.1 3 → t.1 (.inr k) 18 j = iI (v.2 12 j) ∧ t.1 (.inr k) 19 j = iI (v.2 13 j))) (n := v.1 3) (fun i t hi ht => by
    obtain ⟨p1, p2, p3⟩ := ht
    obtain ⟨q1, q2⟩ := p3 i (Nat.le_refl i) hi
    have g6 := hs i hi
    have hc := cN_le (oth v l) i
    by_cases c : v.2 12 i = (l : Int)
    · have cf : oth v l i = false := decide_eq_false (fun z => z c)
      refine ⟨t, ?_, p1, fun j hj => ?_, fun j hj hj2 => p3 j (by omega) hj2⟩
      · show f_X7_removeAllOf_4 _ _ _ _ _ = f_X7_removeAllOf_4 _ _ _ _ _
        rw [e_X7_removeAllOf_4, cN_f cf]
        simp (disch := omega) only [xI_le, xI_lt, xI_eq, xI_0, xI_ib, if_pos, if_neg, if_true, if_false, xI_cl, Int.toNat_natCast, iI_m, iI_a, iI_s, iI_1, xI_n, Option.bind_some, Int.natCast_add, Int.natCast_one, xI_zb, if_bI0, if_bI1, xI_rn, xI_ti, p1, q1]
      · rw [cN_f cf] at hj
        rw [fl_f cf, fl_f cf]
        exact p2 j hj
    · have ct : oth v l i = true := decide_eq_true c
      refine ⟨am_u (am_u t (.inr k) 18 (cN (oth v l) i) (iI (v.2 12 i))) (.inr k) 19 (cN (oth v l) i) (iI (v.2 13 i)), ?_, ?_, fun j hj => ?_, fun j hj hj2 => ?_⟩
      · show f_X7_removeAllOf_4 _ _ _ _ _ = f_X7_removeAllOf_4 _ _ _ _ _
        rw [e_X7_removeAllOf_4, cN_t ct]
        generalize cN (oth v l) i = m at *
        simp (disch := omega) only [xI_le, xI_lt, xI_eq, xI_0, xI_ib, if_pos, if_neg, if_true, if_false, xI_cl, Int.toNat_natCast, iI_m, iI_a, iI_s, iI_1, xI_n, Option.bind_some, Int.natCast_add, Int.natCast_one, xI_zb, if_bI0, if_bI1, xI_rn, xI_ti, p1, q1, am_lt, am_u_row (show ((.inr k : am_G), 19) ≠ (.inr k, 18) by simp), q2]
      · rw [am_u_row (by simp), am_u_row (by simp)]; exact p1
      · rw [cN_t ct] at hj
        rw [am_u_row (by simp), au_s, au_s, am_u_row (by simp), fl_t ct, fl_t ct]
        by_cases d : j = cN (oth v l) i
        · rw [if_pos d, if_pos d, if_pos d, if_pos d]; exact ⟨rfl, rfl⟩
        · rw [if_neg d, if_neg d, if_neg d, if_neg d]
          exact p2 j (by omega)
      · rw [am_u_row (by simp), au_s, au_s, am_u_row (by simp), if_neg (by omega), if_neg (by omega)]
        exact p3 j (by omega) hj2) (s0 := h) ⟨r1, fun j hj => absurd hj (Nat.not_lt_zero j), fun j _ hj => r2 j hj⟩
  have hc := cN_le (oth v l) (v.1 3)
  refine ⟨am_u t (.inr k) 17 2 (iI (cN (oth v l) (v.1 3))), ?_, ?_, fun i hi => ?_⟩
  · unfold f_X7_removeAllOf
    refine Eq.trans e1 ?_
    show f_X7_removeAllOf_4 _ _ _ _ _ = _
    rw [e_X7_removeAllOf_4]
    generalize cN (oth v l) (v.1 3) = m at *
    simp (disch := omega) only [xI_le, xI_lt, xI_eq, xI_0, xI_ib, if_pos, if_neg, if_true, if_false, xI_cl, Int.toNat_natCast, iI_m, iI_a, iI_s, iI_1, xI_n, Option.bind_some, Int.natCast_add, Int.natCast_one, xI_zb, if_bI0, if_bI1, xI_rn, xI_ti, p1, am_lt]
  · rw [au_s, if_pos rfl]
    rfl
  · have hi' : i < cN (oth v l) (v.1 3) := hi
    rw [am_u_row (by simp), am_u_row (by simp)]
    exact p2 i hi'
end MEP
