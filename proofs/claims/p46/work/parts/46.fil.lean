/-! flourishes fill the rooms -/
abbrev fs_T : Type := (Nat → Bool) × (Nat → Int) × (Nat → Int)
def fu {α : Type} (f : Nat → α) (i : Nat) (x : α) : Nat → α := fun j => if j = i then x else f j
theorem fu_s {α : Type} {f : Nat → α} {i : Nat} {x : α} : fu f i x i = x := if_pos rfl
theorem fu_o {α : Type} {f : Nat → α} {i j : Nat} {x : α} (h : j ≠ i) : fu f i x j = f j := if_neg h
def pv_lg (v : pv_T) (sv : Nat → Bool) : Nat → Int
  | 0 => -1
  | i + 1 => if sv i = false ∧ (pv_lg v sv i = -1 ∨ pv_rm v (pv_lg v sv i).toNat < pv_rm v i) then (i : Int) else pv_lg v sv i
def pv_bk (v : pv_T) (st : Nat → Int) (p : Int) : Nat → Int
  | 0 => -1
  | q + 1 => if (0 < st q ∧ 1000 * v.2 9 q ≤ p) ∧ (pv_bk v st p q = -1 ∨ v.2 10 (pv_bk v st p q).toNat < v.2 10 q) then (q : Int) else pv_bk v st p q
theorem pv_lg_b (v : pv_T) (sv : Nat → Bool) (i : Nat) : -1 ≤ pv_lg v sv i ∧ pv_lg v sv i < i := by
  induction i with
  | zero => unfold pv_lg; omega
  | succ i ih => unfold pv_lg; split <;> omega
theorem pv_bk_b (v : pv_T) (st : Nat → Int) (p : Int) (i : Nat) : -1 ≤ pv_bk v st p i ∧ pv_bk v st p i < i := by
  induction i with
  | zero => unfold pv_bk; omega
  | succ i ih => unfold pv_bk; split <;> omega
theorem pv_lg_f (v : pv_T) (sv : Nat → Bool) (i : Nat) (h : pv_lg v sv i ≠ -1) : sv (pv_lg v sv i).toNat = false := by
  induction i with
  | zero => exact absurd rfl h
  | succ i ih =>
    unfold pv_lg at h ⊢
    split
    · next c => rw [Int.toNat_natCast]; exact c.1
    · next c => rw [if_neg c] at h; exact ih h
theorem pv_bk_f (v : pv_T) (st : Nat → Int) (p : Int) (i : Nat) (h : pv_bk v st p i ≠ -1) : 0 < st (pv_bk v st p i).toNat := by
  induction i with
  | zero => exact absurd rfl h
  | succ i ih =>
    unfold pv_bk at h ⊢
    split
    · next c => rw [Int.toNat_natCast]; exact c.1.1
    · next c => rw [if_neg c] at h; exact ih h
theorem pv_lg_ne (v : pv_T) (sv : Nat → Bool) (i : Nat) (h : cN sv i < i) : pv_lg v sv i ≠ -1 := by
  induction i with
  | zero => omega
  | succ i ih =>
    unfold pv_lg
    by_cases c : sv i = false
    · by_cases d : pv_lg v sv i = -1
      · rw [if_pos ⟨c, Or.inl d⟩]; omega
      · split
        · omega
        · exact d
    · rw [if_neg (fun z => c z.1)]
      refine ih ?_
      have : sv i = true := by simpa using c
      rw [cN_t this] at h
      omega
theorem cN_fu {p : Nat → Bool} {r m : Nat} (hr : r < m) (hp : p r = false) : cN (fu p r true) m = cN p m + 1 := by
  have low : ∀ n, n ≤ r → cN (fu p r true) n = cN p n := by
    intro n
    induction n with
    | zero => intro _; rfl
    | succ n ih =>
      intro hn
      unfold cN
      rw [fu_o (by omega), ih (by omega)]
  induction m with
  | zero => omega
  | succ m ih =>
    by_cases e : r = m
    · subst e
      rw [cN_t fu_s, cN_f hp, low r (Nat.le_refl _)]
    · have i9 := ih (by omega)
      unfold cN
      rw [fu_o (by omega), i9]
      split <;> omega
/-- who is served next, with what -/
def fs_r (v : pv_T) (f : fs_T) : Nat := (pv_lg v f.1 (v.1 1 + 1)).toNat
def fs_b (v : pv_T) (f : fs_T) : Int := pv_bk v f.2.2 (pv_rm v (fs_r v f) - 200 * v.2 0 1) (v.1 2)
def pv_fs (v : pv_T) : Nat → fs_T
  | 0 => (fun _ => false, fun _ => -1, fun q => v.2 11 q)
  | n + 1 => (fu (pv_fs v n).1 (fs_r v (pv_fs v n)) true, fu (pv_fs v n).2.1 (fs_r v (pv_fs v n)) (fs_b v (pv_fs v n)),
      if fs_b v (pv_fs v n) = -1 then (pv_fs v n).2.2 else fu (pv_fs v n).2.2 (fs_b v (pv_fs v n)).toNat ((pv_fs v n).2.2 (fs_b v (pv_fs v n)).toNat - 1))
theorem pv_fs_ok {v : pv_T} (hv : pv_ok v) : ∀ n, n ≤ v.1 1 + 1 → cN (pv_fs v n).1 (v.1 1 + 1) = n ∧ (∀ i, -1 ≤ (pv_fs v n).2.1 i ∧ (pv_fs v n).2.1 i < v.1 2) ∧ (∀ q, q < v.1 2 → 0 ≤ (pv_fs v n).2.2 q ∧ (pv_fs v n).2.2 q ≤ 9)
  | 0, _ => by
    refine ⟨?_, fun i => ⟨Int.le_refl _, by show (-1 : Int) < v.1 2; omega⟩, fun q hq => ?_⟩
    · have : ∀ m, cN (fun _ => false) m = 0 := fun m => by
        induction m with
        | zero => rfl
        | succ m ih => rw [cN_f rfl, ih]
      exact this _
    · have := hv.2.2.2.2.1 q hq
      show 0 ≤ v.2 11 q ∧ v.2 11 q ≤ 9
      omega
  | n + 1, hn => by
    obtain ⟨p1, p2, p3⟩ := pv_fs_ok hv n (by omega)
    have hne := pv_lg_ne v (pv_fs v n).1 (v.1 1 + 1) (by omega)
    have hb := pv_lg_b v (pv_fs v n).1 (v.1 1 + 1)
    have hk := pv_bk_b v (pv_fs v n).2.2 (pv_rm v (fs_r v (pv_fs v n)) - 200 * v.2 0 1) (v.1 2)
    refine ⟨?_, fun i => ?_, fun q hq => ?_⟩
    · show cN (fu _ _ true) _ = n + 1
      rw [show fs_r v (pv_fs v n) = (pv_lg v (pv_fs v n).1 (v.1 1 + 1)).toNat from rfl, cN_fu (by omega) (pv_lg_f _ _ _ hne), p1]
    · show -1 ≤ fu _ _ _ i ∧ fu _ _ _ i < (v.1 2 : Int)
      unfold fu
      split
      · exact hk
      · exact p2 i
    · show 0 ≤ (if fs_b v (pv_fs v n) = -1 then (pv_fs v n).2.2 else _) q ∧ (if fs_b v (pv_fs v n) = -1 then (pv_fs v n).2.2 else _) q ≤ 9
      split
      · exact p3 q hq
      · next c =>
        have h0 := pv_bk_f v (pv_fs v n).2.2 (pv_rm v (fs_r v (pv_fs v n)) - 200 * v.2 0 1) (v.1 2) c
        have h1 : 0 < (pv_fs v n).2.2 (fs_b v (pv_fs v n)).toNat := h0
        unfold fu
        split
        · next e => have := p3 q hq; rw [e] at this; omega
        · exact p3 q hq
/-- the class's rows while it fills -/
def cl_fs (h : am_H) (v : pv_T) (f : fs_T) : Prop := (∀ i, i ≤ v.1 1 → h.1 (.inl 1) 6 i = iI (if f.1 i = true then 1 else 0) ∧ h.1 (.inl 1) 5 i = iI (f.2.1 i)) ∧ ∀ q, q < v.1 2 → h.1 (.inl 1) 7 q = iI (f.2.2 q)
section FIL
variable {h : am_H} {k : Nat} {v : pv_T}
theorem cl_lay.eq {h' : am_H} (e3 : h'.1 (.inl 1) 3 = h.1 (.inl 1) 3) (e4 : h'.1 (.inl 1) 4 = h.1 (.inl 1) 4) (R : cl_lay h v) : cl_lay h' v := by unfold cl_lay; rw [e3, e4]; exact R
theorem k_largest (hv : pv_ok v) (Rl : cl_lay h v) {f : fs_T} (Rf : cl_fs h v f) : f_X3_largestUnserved h = some (iI (pv_lg v f.1 (v.1 1 + 1))) := by
  have h8 := hv.1
  have s := ch_to (fun i : Nat => f_X3_largestUnserved_4 (iI (pv_lg v f.1 i)) (iI i) h) (Nat.zero_le (v.1 1 + 1)) (fun i _ hi => by
    show f_X3_largestUnserved_4 _ _ _ = f_X3_largestUnserved_4 _ _ _
    have hb := pv_rm_b hv (i := i) (by omega)
    have hg := pv_lg_b v f.1 i
    have r1 := (Rf.1 i (by omega)).1
    rw [e_X3_largestUnserved_4]
    by_cases c : f.1 i = true
    · rw [if_pos c] at r1
      rw [show pv_lg v f.1 (i + 1) = pv_lg v f.1 i from if_neg (fun z => by rw [c] at z; cases z.1)]
      simp (disch := omega) only [xI_le, xI_lt, xI_eq, xI_0, xI_ib, if_pos, if_neg, if_true, if_false, xI_cl, Int.toNat_natCast, iI_m, iI_a, iI_s, iI_1, xI_n, Option.bind_some, Int.natCast_add, Int.natCast_one, xI_zb, if_bI0, if_bI1, xI_rn, xI_ti, Rl.1, r1]
    · rw [if_neg c] at r1
      have c' : f.1 i = false := by simpa using c
      by_cases d : pv_lg v f.1 i = -1
      · rw [show pv_lg v f.1 (i + 1) = i from if_pos ⟨c', Or.inl d⟩]
        simp (disch := omega) only [xI_le, xI_lt, xI_eq, xI_0, xI_ib, if_pos, if_neg, if_true, if_false, xI_cl, Int.toNat_natCast, iI_m, iI_a, iI_s, iI_1, xI_n, Option.bind_some, Int.natCast_add, Int.natCast_one, xI_zb, if_bI0, if_bI1, xI_rn, xI_ti, Rl.1, r1]
      · have hb2 := pv_rm_b hv (i := (pv_lg v f.1 i).toNat) (by omega)
        by_cases g : pv_rm v (pv_lg v f.1 i).toNat < pv_rm v i
        · rw [show pv_lg v f.1 (i + 1) = i from if_pos ⟨c', Or.inr g⟩]
          simp (disch := omega) only [xI_le, xI_lt, xI_eq, xI_0, xI_ib, if_pos, if_neg, if_true, if_false, xI_cl, Int.toNat_natCast, iI_m, iI_a, iI_s, iI_1, xI_n, Option.bind_some, Int.natCast_add, Int.natCast_one, xI_zb, if_bI0, if_bI1, xI_rn, xI_ti, Rl.1, r1, Rl.2 i (by omega), Rl.2 (pv_lg v f.1 i).toNat (by omega)]
        · rw [show pv_lg v f.1 (i + 1) = pv_lg v f.1 i from if_neg (fun z => by rcases z.2 with z | z <;> omega)]
          simp (disch := omega) only [xI_le, xI_lt, xI_eq, xI_0, xI_ib, if_pos, if_neg, if_true, if_false, xI_cl, Int.toNat_natCast, iI_m, iI_a, iI_s, iI_1, xI_n, Option.bind_some, Int.natCast_add, Int.natCast_one, xI_zb, if_bI0, if_bI1, xI_rn, xI_ti, Rl.1, r1, Rl.2 i (by omega), Rl.2 (pv_lg v f.1 i).toNat (by omega)])
  refine Eq.trans s ?_
  show f_X3_largestUnserved_4 _ _ _ = _
  rw [e_X3_largestUnserved_4]
  simp (disch := omega) only [xI_le, xI_lt, xI_eq, xI_0, xI_ib, if_pos, if_neg, if_true, if_false, xI_cl, Int.toNat_natCast, iI_m, iI_a, iI_s, iI_1, xI_n, Option.bind_some, Int.natCast_add, Int.natCast_one, xI_zb, if_bI0, if_bI1, xI_rn, xI_ti, Rl.1]
theorem k_bestKind (hv : pv_ok v) (R : cl_ki h k v) {f : fs_T} (Rf : cl_fs h v f) (hf : ∀ q, q < v.1 2 → 0 ≤ f.2.2 q ∧ f.2.2 q ≤ 9) {p : Int} (hp : -2147483648 ≤ p ∧ p < 2147483648) : f_X3_bestKind k (iI p) h = some (iI (pv_bk v f.2.2 p (v.1 2))) := by
  have h8 := hv.1
  have s := ch_to (fun i : Nat => f_X3_bestKind_5 k (iI p) (iI (pv_bk v f.2.2 p i)) (iI i) h) (Nat.zero_le (v.1 2)) (fun i _ hi => by
    show f_X3_bestKind_5 _ _ _ _ _ = f_X3_bestKind_5 _ _ _ _ _
    have hb := hv.2.2.2.2.1 i hi
    have hg := pv_bk_b v f.2.2 p i
    have hs := hf i hi
    have r1 := Rf.2 i hi
    have r2 := R.2.1 i hi
    rw [e_X3_bestKind_5]
    by_cases c : 0 < f.2.2 i ∧ 1000 * v.2 9 i ≤ p
    · by_cases d : pv_bk v f.2.2 p i = -1
      · rw [show pv_bk v f.2.2 p (i + 1) = i from if_pos ⟨c, Or.inl d⟩]
        simp (disch := omega) only [xI_le, xI_lt, xI_eq, xI_0, xI_ib, if_pos, if_neg, if_true, if_false, xI_cl, Int.toNat_natCast, iI_m, iI_a, iI_s, iI_1, xI_n, Option.bind_some, Int.natCast_add, Int.natCast_one, xI_zb, if_bI0, if_bI1, xI_rn, xI_ti, R.1, r1, r2.1, e_X3_bestKind_44]
      · have hb2 := hv.2.2.2.2.1 (pv_bk v f.2.2 p i).toNat (by omega)
        have r3 := R.2.1 (pv_bk v f.2.2 p i).toNat (by omega)
        by_cases g : v.2 10 (pv_bk v f.2.2 p i).toNat < v.2 10 i
        · rw [show pv_bk v f.2.2 p (i + 1) = i from if_pos ⟨c, Or.inr g⟩]
          simp (disch := omega) only [xI_le, xI_lt, xI_eq, xI_0, xI_ib, if_pos, if_neg, if_true, if_false, xI_cl, Int.toNat_natCast, iI_m, iI_a, iI_s, iI_1, xI_n, Option.bind_some, Int.natCast_add, Int.natCast_one, xI_zb, if_bI0, if_bI1, xI_rn, xI_ti, R.1, r1, r2.1, e_X3_bestKind_44, r2.2.1, r3.2.1]
        · rw [show pv_bk v f.2.2 p (i + 1) = pv_bk v f.2.2 p i from if_neg (fun z => by rcases z.2 with z | z <;> omega)]
          simp (disch := omega) only [xI_le, xI_lt, xI_eq, xI_0, xI_ib, if_pos, if_neg, if_true, if_false, xI_cl, Int.toNat_natCast, iI_m, iI_a, iI_s, iI_1, xI_n, Option.bind_some, Int.natCast_add, Int.natCast_one, xI_zb, if_bI0, if_bI1, xI_rn, xI_ti, R.1, r1, r2.1, e_X3_bestKind_44, r2.2.1, r3.2.1]
    · rw [show pv_bk v f.2.2 p (i + 1) = pv_bk v f.2.2 p i from if_neg (fun z => c z.1)]
      by_cases d : 0 < f.2.2 i
      · simp (disch := omega) only [xI_le, xI_lt, xI_eq, xI_0, xI_ib, if_pos, if_neg, if_true, if_false, xI_cl, Int.toNat_natCast, iI_m, iI_a, iI_s, iI_1, xI_n, Option.bind_some, Int.natCast_add, Int.natCast_one, xI_zb, if_bI0, if_bI1, xI_rn, xI_ti, R.1, r1, r2.1, e_X3_bestKind_44]
      · simp (disch := omega) only [xI_le, xI_lt, xI_eq, xI_0, xI_ib, if_pos, if_neg, if_true, if_false, xI_cl, Int.toNat_natCast, iI_m, iI_a, iI_s, iI_1, xI_n, Option.bind_some, Int.natCast_add, Int.natCast_one, xI_zb, if_bI0, if_bI1, xI_rn, xI_ti, R.1, r1, r2.1, e_X3_bestKind_44])
  refine Eq.trans s ?_
  show f_X3_bestKind_5 _ _ _ _ _ = _
  rw [e_X3_bestKind_5]
  simp (disch := omega) only [xI_le, xI_lt, xI_eq, xI_0, xI_ib, if_pos, if_neg, if_true, if_false, xI_cl, Int.toNat_natCast, iI_m, iI_a, iI_s, iI_1, xI_n, Option.bind_some, Int.natCast_add, Int.natCast_one, xI_zb, if_bI0, if_bI1, xI_rn, xI_ti, R.1]
theorem vz1 : vp_nar .boolean (iI 1) = iI 1 := by decide
theorem vz0 : vp_nar .boolean (iI 0) = iI 0 := by decide
theorem k_fillLargest (hv : pv_ok v) (P : cl_pl h k v) (Rl : cl_lay h v) {n : Nat} (hn : n ≤ v.1 1) (Rf : cl_fs h v (pv_fs v n)) : ∃ h', f_X3_fillLargest k h = some h' ∧ cl_fs h' v (pv_fs v (n + 1)) := by
  have h8 := hv.1
  have hm := hv.2.2.2.2.2.2
  obtain ⟨p1, p2, p3⟩ := pv_fs_ok hv n (by omega)
  have hne := pv_lg_ne v (pv_fs v n).1 (v.1 1 + 1) (by omega)
  have hb := pv_lg_b v (pv_fs v n).1 (v.1 1 + 1)
  have hr : pv_lg v (pv_fs v n).1 (v.1 1 + 1) = (fs_r v (pv_fs v n) : Int) := by unfold fs_r; omega
  have hr2 : fs_r v (pv_fs v n) ≤ v.1 1 := by omega
  have hrb := pv_rm_b hv hr2
  have hk := pv_bk_b v (pv_fs v n).2.2 (pv_rm v (fs_r v (pv_fs v n)) - 200 * v.2 0 1) (v.1 2)
  generalize er : fs_r v (pv_fs v n) = r at hr hr2 hrb hk
  have hfb : fs_b v (pv_fs v n) = pv_bk v (pv_fs v n).2.2 (pv_rm v r - 200 * v.2 0 1) (v.1 2) := by unfold fs_b; rw [er]
  rw [← hfb] at hk
  generalize eb : fs_b v (pv_fs v n) = b at hfb hk
  obtain ⟨h1, e1⟩ : ∃ h1, h1 = am_u h (.inl 1) 6 r (vp_nar .boolean (iI 1)) := ⟨_, rfl⟩
  obtain ⟨h2, e2⟩ : ∃ h2, h2 = am_u h1 (.inl 1) 5 r (iI b) := ⟨_, rfl⟩
  have w1 : Wr [(.inl 1, 6)] h h1 := by rw [e1]; exact Wr.u (by simp)
  have q1 := w1.P (k := k) (by simp)
  have Rf1 : ∀ q, q < v.1 2 → h1.1 (.inl 1) 7 q = iI ((pv_fs v n).2.2 q) := fun q hq => by rw [w1.1 _ _ (by simp)]; exact Rf.2 q hq
  have r4 : h1.1 (.inl 1) 4 r = iI (pv_rm v r) := by rw [w1.1 _ _ (by simp)]; exact Rl.2 r hr2
  have r5 : h1.1 (.inr k) 0 5 = iI (v.2 0 1) := by rw [q1]; exact P.2.2.2.2.2
  have kb : f_X3_bestKind k (iI (pv_rm v r - 200 * v.2 0 1)) h1 = some (iI b) := by
    have Rf0 : cl_fs h1 v (fu (pv_fs v n).1 r true, (pv_fs v n).2.1, (pv_fs v n).2.2) := by
      refine ⟨fun i hi => ⟨?_, by rw [w1.1 _ _ (by simp)]; exact (Rf.1 i hi).2⟩, Rf1⟩
      rw [e1, au_s, vz1]
      show (if i = r then iI 1 else h.1 (.inl 1) 6 i) = iI (if fu (pv_fs v n).1 r true i = true then 1 else 0)
      by_cases c : i = r
      · subst c; rw [if_pos rfl, fu_s]; rfl
      · rw [if_neg c, fu_o c]; exact (Rf.1 i hi).1
    have := k_bestKind hv (P.2.2.1.eq q1) Rf0 p3 (p := pv_rm v r - 200 * v.2 0 1) (by omega)
    rw [hfb]
    exact this
  have e9 : f_X3_fillLargest k h = if b = -1 then some h2 else some (am_u h2 (.inl 1) 7 b.toNat (h2.1 (.inl 1) 7 b.toNat - iI 1)) := by
    unfold f_X3_fillLargest
    by_cases c : b = -1
    · rw [if_pos c]
      simp (disch := omega) only [xI_le, xI_lt, xI_eq, xI_0, xI_ib, if_pos, if_neg, if_true, if_false, xI_cl, Int.toNat_natCast, iI_m, iI_a, iI_s, iI_1, xI_n, Option.bind_some, Int.natCast_add, Int.natCast_one, xI_zb, if_bI0, if_bI1, xI_rn, xI_ti, k_largest hv Rl Rf, hr, am_lt, ← e1, r4, r5, kb, ← e2]
    · rw [if_neg c]
      simp (disch := omega) only [xI_le, xI_lt, xI_eq, xI_0, xI_ib, if_pos, if_neg, if_true, if_false, xI_cl, Int.toNat_natCast, iI_m, iI_a, iI_s, iI_1, xI_n, Option.bind_some, Int.natCast_add, Int.natCast_one, xI_zb, if_bI0, if_bI1, xI_rn, xI_ti, k_largest hv Rl Rf, hr, am_lt, ← e1, r4, r5, kb, ← e2]
  have key : ∀ h' : am_H, h'.1 (.inl 1) 6 = h2.1 (.inl 1) 6 → h'.1 (.inl 1) 5 = h2.1 (.inl 1) 5 → (∀ q, q < v.1 2 → h'.1 (.inl 1) 7 q = iI ((if b = -1 then (pv_fs v n).2.2 else fu (pv_fs v n).2.2 b.toNat ((pv_fs v n).2.2 b.toNat - 1)) q)) → cl_fs h' v (pv_fs v (n + 1)) := by
    intro h' e6 e5 e7
    refine ⟨fun i hi => ⟨?_, ?_⟩, fun q hq => ?_⟩
    · rw [e6, e2, am_u_row (by simp), e1, au_s, vz1]
      show (if i = r then iI 1 else h.1 (.inl 1) 6 i) = iI (if fu _ (fs_r v (pv_fs v n)) true i = true then 1 else 0)
      rw [er]
      by_cases c : i = r
      · subst c; rw [if_pos rfl, fu_s]; rfl
      · rw [if_neg c, fu_o c]; exact (Rf.1 i hi).1
    · rw [e5, e2, au_s]
      show (if i = r then iI b else h1.1 (.inl 1) 5 i) = iI (fu _ (fs_r v (pv_fs v n)) (fs_b v (pv_fs v n)) i)
      rw [er, eb]
      by_cases c : i = r
      · subst c; rw [if_pos rfl, fu_s]
      · rw [if_neg c, fu_o c, w1.1 _ _ (by simp)]; exact (Rf.1 i hi).2
    · show h'.1 (.inl 1) 7 q = iI ((if fs_b v (pv_fs v n) = -1 then (pv_fs v n).2.2 else fu (pv_fs v n).2.2 (fs_b v (pv_fs v n)).toNat ((pv_fs v n).2.2 (fs_b v (pv_fs v n)).toNat - 1)) q)
      rw [eb]
      exact e7 q hq
  rw [e9]
  by_cases c : b = -1
  · rw [if_pos c]
    exact ⟨h2, rfl, key h2 rfl rfl (fun q hq => by rw [if_pos c, e2, am_u_row (by simp)]; exact Rf1 q hq)⟩
  · rw [if_neg c]
    refine ⟨_, rfl, key _ (am_u_row (by simp)) (am_u_row (by simp)) (fun q hq => ?_)⟩
    have r7 : h2.1 (.inl 1) 7 = h1.1 (.inl 1) 7 := by rw [e2, am_u_row (by simp)]
    rw [if_neg c, au_s, r7]
    by_cases d : q = b.toNat
    · subst d
      rw [if_pos rfl, fu_s, Rf1 _ hq, iI_s]
    · rw [if_neg d, fu_o d]
      exact Rf1 q hq
theorem k_fill (hv : pv_ok v) (P : cl_pl h k v) : ∃ h', f_X3_fill k h = some h' ∧ cl_lay h' v ∧ cl_fs h' v (pv_fs v (v.1 1 + 1)) := by
  have h8 := hv.1
  obtain ⟨hm, em, Rl⟩ := k_measure hv P.1 P.2.1
  have wm := wr_X3_measure em
  have Pm := P.eq (wm.P (k := k) (by simp))
  have L0 : Wr [(.inl 1, 7)] hm hm := Wr.rf
  obtain ⟨s1, e1, w1, p1⟩ := ch_rel (fun i s => f_X3_fill_7 k (iI i) s) (fun i s => Wr [(.inl 1, 7)] hm s ∧ ∀ j, j < i → s.1 (.inl 1) 7 j = iI (v.2 11 j)) (n := v.1 2) (fun i s hi hp => by
    obtain ⟨w, p⟩ := hp
    have Ps := Pm.eq (w.P (k := k) (by simp))
    refine ⟨am_u s (.inl 1) 7 i (iI (v.2 11 i)), ?_, w.tr (Wr.u (by simp)), fun j hj => ?_⟩
    · show f_X3_fill_7 _ _ _ = f_X3_fill_7 _ _ _
      rw [e_X3_fill_7]
      simp (disch := omega) only [xI_le, xI_lt, xI_eq, xI_0, xI_ib, if_pos, if_neg, if_true, if_false, xI_cl, Int.toNat_natCast, iI_m, iI_a, iI_s, iI_1, xI_n, Option.bind_some, Int.natCast_add, Int.natCast_one, xI_zb, if_bI0, if_bI1, xI_rn, xI_ti, Ps.2.2.1.1, (Ps.2.2.1.2.1 i hi).2.2, am_lt]
    · rw [au_s]
      by_cases c : j = i
      · subst c; rw [if_pos rfl]
      · rw [if_neg c]; exact p j (by omega)) (s0 := hm) ⟨Wr.rf, fun j hj => by omega⟩
  have P1 := Pm.eq (w1.P (k := k) (by simp))
  have Rl1 : cl_lay s1 v := Rl.eq (w1.1 _ _ (by simp)) (w1.1 _ _ (by simp))
  obtain ⟨s2, e2, w2, p2⟩ := ch_rel (fun i s => f_X3_fill_41 k (iI i) s) (fun i s => Wr [(.inl 1, 5), (.inl 1, 6)] s1 s ∧ ∀ j, j < i → s.1 (.inl 1) 6 j = iI 0 ∧ s.1 (.inl 1) 5 j = iI (-1)) (n := v.1 1 + 1) (fun i s hi hp => by
    obtain ⟨w, p⟩ := hp
    have Rs : cl_lay s v := Rl1.eq (w.1 _ _ (by simp)) (w.1 _ _ (by simp))
    refine ⟨am_u (am_u s (.inl 1) 5 i (iI (-1))) (.inl 1) 6 i (iI 0), ?_, w.tr ((Wr.u (by simp)).tr (Wr.u (by simp))), fun j hj => ⟨?_, ?_⟩⟩
    · show f_X3_fill_41 _ _ _ = f_X3_fill_41 _ _ _
      rw [e_X3_fill_41]
      simp (disch := omega) only [xI_le, xI_lt, xI_eq, xI_0, xI_ib, if_pos, if_neg, if_true, if_false, xI_cl, Int.toNat_natCast, iI_m, iI_a, iI_s, iI_1, xI_n, Option.bind_some, Int.natCast_add, Int.natCast_one, xI_zb, if_bI0, if_bI1, xI_rn, xI_ti, Rs.1, am_lt, vz0]
    · rw [au_s, am_u_row (by simp)]
      by_cases c : j = i
      · subst c; rw [if_pos rfl]
      · rw [if_neg c]; exact (p j (by omega)).1
    · rw [am_u_row (by simp), au_s]
      by_cases c : j = i
      · subst c; rw [if_pos rfl]
      · rw [if_neg c]; exact (p j (by omega)).2) (s0 := s1) ⟨Wr.rf, fun j hj => by omega⟩
  have P2 := P1.eq (w2.P (k := k) (by simp))
  have Rl2 : cl_lay s2 v := Rl1.eq (w2.1 _ _ (by simp)) (w2.1 _ _ (by simp))
  have Rf2 : cl_fs s2 v (pv_fs v 0) := ⟨fun i hi => ⟨(p2 i (by omega)).1, (p2 i (by omega)).2⟩, fun q hq => by rw [w2.1 _ _ (by simp)]; exact p1 q hq⟩
  obtain ⟨s3, e3, P3, Rl3, Rf3⟩ := ch_rel (fun i s => f_X3_fill_71 k (iI i) s) (fun i s => cl_pl s k v ∧ cl_lay s v ∧ cl_fs s v (pv_fs v i)) (n := v.1 1 + 1) (fun i s hi hp => by
    obtain ⟨Ps, Rs, Rf⟩ := hp
    obtain ⟨s', e', Rf'⟩ := k_fillLargest hv Ps Rs (n := i) (by omega) Rf
    have w' := wr_X3_fillLargest e'
    refine ⟨s', ?_, Ps.eq (w'.P (k := k) (by simp)), Rs.eq (w'.1 _ _ (by simp)) (w'.1 _ _ (by simp)), Rf'⟩
    show f_X3_fill_71 _ _ _ = f_X3_fill_71 _ _ _
    rw [e_X3_fill_71]
    simp (disch := omega) only [xI_le, xI_lt, xI_eq, xI_0, xI_ib, if_pos, if_neg, if_true, if_false, xI_cl, Int.toNat_natCast, iI_m, iI_a, iI_s, iI_1, xI_n, Option.bind_some, Int.natCast_add, Int.natCast_one, xI_zb, if_bI0, if_bI1, xI_rn, xI_ti, Rs.1, e']) (s0 := s2) ⟨P2, Rl2, Rf2⟩
  refine ⟨s3, ?_, Rl3, Rf3⟩
  have q1 : f_X3_fill k h = f_X3_fill_7 k (iI (0 : Nat)) hm := by unfold f_X3_fill; rw [em]; rfl
  have q2 : f_X3_fill_7 k (iI (v.1 2)) s1 = f_X3_fill_41 k (iI (0 : Nat)) s1 := by
    rw [e_X3_fill_7]
    simp (disch := omega) only [xI_le, xI_lt, xI_eq, xI_0, xI_ib, if_pos, if_neg, if_true, if_false, xI_cl, Int.toNat_natCast, iI_m, iI_a, iI_s, iI_1, xI_n, Option.bind_some, Int.natCast_add, Int.natCast_one, xI_zb, if_bI0, if_bI1, xI_rn, xI_ti, P1.2.2.1.1]
    rfl
  have q3 : f_X3_fill_41 k (iI (v.1 1 + 1 : Nat)) s2 = f_X3_fill_71 k (iI (0 : Nat)) s2 := by
    rw [e_X3_fill_41]
    simp (disch := omega) only [xI_le, xI_lt, xI_eq, xI_0, xI_ib, if_pos, if_neg, if_true, if_false, xI_cl, Int.toNat_natCast, iI_m, iI_a, iI_s, iI_1, xI_n, Option.bind_some, Int.natCast_add, Int.natCast_one, xI_zb, if_bI0, if_bI1, xI_rn, xI_ti, Rl2.1]
    rfl
  have q4 : f_X3_fill_71 k (iI (v.1 1 + 1 : Nat)) s3 = some s3 := by
    rw [e_X3_fill_71]
    simp (disch := omega) only [xI_le, xI_lt, xI_eq, xI_0, xI_ib, if_pos, if_neg, if_true, if_false, xI_cl, Int.toNat_natCast, iI_m, iI_a, iI_s, iI_1, xI_n, Option.bind_some, Int.natCast_add, Int.natCast_one, xI_zb, if_bI0, if_bI1, xI_rn, xI_ti, Rl3.1]
  rw [q1]
  refine Eq.trans e1 ?_
  show f_X3_fill_7 k (iI (v.1 2)) s1 = _
  rw [q2]
  refine Eq.trans e2 ?_
  show f_X3_fill_41 k (iI (v.1 1 + 1 : Nat)) s2 = _
  rw [q3]
  refine Eq.trans e3 ?_
  exact q4
end FIL
