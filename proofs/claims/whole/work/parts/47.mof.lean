/-! flourishes of the reference; their worth -/
theorem cN_all {p : Nat → Bool} : ∀ {m : Nat}, cN p m = m → ∀ i, i < m → p i = true
  | 0, _, i, h => by omega
  | m + 1, h, i, hi => by
    have hl := cN_le p m
    by_cases c : p m = true
    · rw [cN_t c] at h
      by_cases e : i = m
      · subst e; exact c
      · exact cN_all (m := m) (by omega) i (by omega)
    · rw [cN_f (by simpa using c)] at h
      omega
def pv_wo (v : pv_T) (f : fs_T) : Nat → Int
  | 0 => 0
  | i + 1 => if f.2.1 i = -1 then pv_wo v f i else pv_wo v f i + v.2 10 (f.2.1 i).toNat
section MOF
variable {h : am_H} {k : Nat} {v : pv_T}
theorem k_worthOfFillings (hv : pv_ok v) (P : cl_pl h k v) (Rl : cl_lay h v) {f : fs_T} (Rf : cl_fs h v f) (hf : ∀ i, -1 ≤ f.2.1 i ∧ f.2.1 i < v.1 2) : f_X3_worthOfFillings k h = some (iI (pv_wo v f (v.1 1 + 1))) := by
  have h8 := hv.1
  have s := ch_to (fun i : Nat => f_X3_worthOfFillings_4 k (iI (pv_wo v f i)) (iI i) h) (Nat.zero_le (v.1 1 + 1)) (fun i _ hi => by
    show f_X3_worthOfFillings_4 _ _ _ _ = f_X3_worthOfFillings_4 _ _ _ _
    have r1 := (Rf.1 i (by omega)).2
    have hb := hf i
    rw [e_X3_worthOfFillings_4]
    by_cases c : f.2.1 i = -1
    · rw [show pv_wo v f (i + 1) = pv_wo v f i from if_pos c]
      simp (disch := omega) only [xI_le, xI_lt, xI_eq, xI_0, xI_ib, if_pos, if_neg, if_true, if_false, xI_cl, Int.toNat_natCast, iI_m, iI_a, iI_s, iI_1, xI_n, Option.bind_some, Int.natCast_add, Int.natCast_one, xI_zb, if_bI0, if_bI1, xI_rn, xI_ti, Rl.1, r1]
    · rw [show pv_wo v f (i + 1) = pv_wo v f i + v.2 10 (f.2.1 i).toNat from if_neg c]
      simp (disch := omega) only [xI_le, xI_lt, xI_eq, xI_0, xI_ib, if_pos, if_neg, if_true, if_false, xI_cl, Int.toNat_natCast, iI_m, iI_a, iI_s, iI_1, xI_n, Option.bind_some, Int.natCast_add, Int.natCast_one, xI_zb, if_bI0, if_bI1, xI_rn, xI_ti, Rl.1, r1, (P.2.2.1.2.1 (f.2.1 i).toNat (by omega)).2.1])
  refine Eq.trans s ?_
  show f_X3_worthOfFillings_4 _ _ _ _ = _
  rw [e_X3_worthOfFillings_4]
  simp (disch := omega) only [xI_le, xI_lt, xI_eq, xI_0, xI_ib, if_pos, if_neg, if_true, if_false, xI_cl, Int.toNat_natCast, iI_m, iI_a, iI_s, iI_1, xI_n, Option.bind_some, Int.natCast_add, Int.natCast_one, xI_zb, if_bI0, if_bI1, xI_rn, xI_ti, Rl.1]
/-- the reference's rows while it fills -/
def mo_fs (h : am_H) (v : pv_T) (D : Int32) (f : fs_T) : Prop := (∀ i, i ≤ v.1 1 → bt D i = f.1 i ∧ (f.1 i = true → h.1 (.inl 0) 10 i = iI (f.2.1 i)) ∧ h.1 (.inl 0) 12 i = iI (pv_rm v i)) ∧ ∀ q, q < v.1 2 → h.1 (.inl 0) 11 q = iI (f.2.2 q)
theorem m_ofK0 (hv : pv_ok v) (R : mo_pl h v) {i : Nat} (hi : i < v.1 2) : f_X12_ofKind (iI i) (iI 0) h = some (iI (v.2 9 i)) := m_ofKind hv R hi (c := 0) (by omega)
theorem m_ofK1 (hv : pv_ok v) (R : mo_pl h v) {i : Nat} (hi : i < v.1 2) : f_X12_ofKind (iI i) (iI 1) h = some (iI (v.2 10 i)) := m_ofKind hv R hi (c := 1) (by omega)
theorem m_ofK2 (hv : pv_ok v) (R : mo_pl h v) {i : Nat} (hi : i < v.1 2) : f_X12_ofKind (iI i) (iI 2) h = some (iI (v.2 11 i)) := m_ofKind hv R hi (c := 2) (by omega)
theorem m_has {D : Int32} {k : Nat} (hk : k < 31) : f_X12_has D (iI k) = some (iI (if bt D k = true then 1 else 0)) := by
  unfold f_X12_has
  rw [← iI_nI k]
  have e := has_bt (D := D) hk
  by_cases c : bt D k = true
  · rw [if_pos (by rw [show iI (1) = 1 from rfl, e]; exact c), if_pos c]
  · rw [if_neg (by rw [show iI (1) = 1 from rfl, e]; exact c), if_neg c]
theorem m_largest (hv : pv_ok v) (R : mo_pl h v) {D : Int32} {f : fs_T} (Rf : mo_fs h v D f) : f_X12_largestEmpty D h = some (iI (pv_lg v f.1 (v.1 1 + 1))) := by
  have h8 := hv.1
  have s := ch_to (fun i : Nat => f_X12_largestEmpty_4 D (iI (pv_lg v f.1 i)) (iI i) h) (Nat.zero_le (v.1 1 + 1)) (fun i _ hi => by
    show f_X12_largestEmpty_4 _ _ _ _ = f_X12_largestEmpty_4 _ _ _ _
    have hb := pv_rm_b hv (i := i) (by omega)
    have hg := pv_lg_b v f.1 i
    have r1 := Rf.1 i (by omega)
    have hh := m_has (D := D) (k := i) (by omega)
    rw [r1.1] at hh
    rw [e_X12_largestEmpty_4]
    by_cases c : f.1 i = true
    · rw [if_pos c] at hh
      rw [show pv_lg v f.1 (i + 1) = pv_lg v f.1 i from if_neg (fun z => by rw [c] at z; cases z.1)]
      simp (disch := omega) only [xI_le, xI_lt, xI_eq, xI_0, xI_ib, if_pos, if_neg, if_true, if_false, xI_cl, Int.toNat_natCast, iI_m, iI_a, iI_s, iI_1, xI_n, Option.bind_some, Int.natCast_add, Int.natCast_one, xI_zb, if_bI0, if_bI1, xI_rn, xI_ti, Int.toNat_one, R.1.2.1, hh]
    · rw [if_neg c] at hh
      have c' : f.1 i = false := by simpa using c
      by_cases d : pv_lg v f.1 i = -1
      · rw [show pv_lg v f.1 (i + 1) = i from if_pos ⟨c', Or.inl d⟩]
        simp (disch := omega) only [xI_le, xI_lt, xI_eq, xI_0, xI_ib, if_pos, if_neg, if_true, if_false, xI_cl, Int.toNat_natCast, iI_m, iI_a, iI_s, iI_1, xI_n, Option.bind_some, Int.natCast_add, Int.natCast_one, xI_zb, if_bI0, if_bI1, xI_rn, xI_ti, Int.toNat_one, R.1.2.1, hh]
      · have hb2 := pv_rm_b hv (i := (pv_lg v f.1 i).toNat) (by omega)
        have r2 := Rf.1 (pv_lg v f.1 i).toNat (by omega)
        by_cases g : pv_rm v (pv_lg v f.1 i).toNat < pv_rm v i
        · rw [show pv_lg v f.1 (i + 1) = i from if_pos ⟨c', Or.inr g⟩]
          simp (disch := omega) only [xI_le, xI_lt, xI_eq, xI_0, xI_ib, if_pos, if_neg, if_true, if_false, xI_cl, Int.toNat_natCast, iI_m, iI_a, iI_s, iI_1, xI_n, Option.bind_some, Int.natCast_add, Int.natCast_one, xI_zb, if_bI0, if_bI1, xI_rn, xI_ti, Int.toNat_one, R.1.2.1, hh, r1.2.2, r2.2.2]
        · rw [show pv_lg v f.1 (i + 1) = pv_lg v f.1 i from if_neg (fun z => by rcases z.2 with z | z <;> omega)]
          simp (disch := omega) only [xI_le, xI_lt, xI_eq, xI_0, xI_ib, if_pos, if_neg, if_true, if_false, xI_cl, Int.toNat_natCast, iI_m, iI_a, iI_s, iI_1, xI_n, Option.bind_some, Int.natCast_add, Int.natCast_one, xI_zb, if_bI0, if_bI1, xI_rn, xI_ti, Int.toNat_one, R.1.2.1, hh, r1.2.2, r2.2.2])
  refine Eq.trans s ?_
  show f_X12_largestEmpty_4 _ _ _ _ = _
  rw [e_X12_largestEmpty_4]
  simp (disch := omega) only [xI_le, xI_lt, xI_eq, xI_0, xI_ib, if_pos, if_neg, if_true, if_false, xI_cl, Int.toNat_natCast, iI_m, iI_a, iI_s, iI_1, xI_n, Option.bind_some, Int.natCast_add, Int.natCast_one, xI_zb, if_bI0, if_bI1, xI_rn, xI_ti, Int.toNat_one, R.1.2.1]
theorem m_kindFor (hv : pv_ok v) (R : mo_pl h v) {D : Int32} {f : fs_T} (Rf : mo_fs h v D f) (hf : ∀ q, q < v.1 2 → 0 ≤ f.2.2 q ∧ f.2.2 q ≤ 9) {p : Int} (hp : -2000000000 ≤ p ∧ p < 2000000000) : f_X12_kindFor (iI p) h = some (iI (pv_bk v f.2.2 (p - 200 * v.2 0 1) (v.1 2))) := by
  have h8 := hv.1
  have hm := hv.2.2.2.2.2.2
  have s := ch_to (fun i : Nat => f_X12_kindFor_4 (iI p) (iI (pv_bk v f.2.2 (p - 200 * v.2 0 1) i)) (iI i) h) (Nat.zero_le (v.1 2)) (fun i _ hi => by
    show f_X12_kindFor_4 _ _ _ _ = f_X12_kindFor_4 _ _ _ _
    have hb := hv.2.2.2.2.1 i hi
    have hg := pv_bk_b v f.2.2 (p - 200 * v.2 0 1) i
    have hs := hf i hi
    have r1 := Rf.2 i hi
    rw [e_X12_kindFor_4]
    by_cases c : 0 < f.2.2 i ∧ 1000 * v.2 9 i ≤ p - 200 * v.2 0 1
    · by_cases d : pv_bk v f.2.2 (p - 200 * v.2 0 1) i = -1
      · rw [show pv_bk v f.2.2 (p - 200 * v.2 0 1) (i + 1) = i from if_pos ⟨c, Or.inl d⟩]
        simp (disch := omega) only [xI_le, xI_lt, xI_eq, xI_0, xI_ib, if_pos, if_neg, if_true, if_false, xI_cl, Int.toNat_natCast, iI_m, iI_a, iI_s, iI_1, xI_n, Option.bind_some, Int.natCast_add, Int.natCast_one, xI_zb, if_bI0, if_bI1, xI_rn, xI_ti, show (2 : Int).toNat = 2 from rfl, show (4 : Int).toNat = 4 from rfl, R.1.2.2.1, R.1.2.2.2.2.1, r1, m_ofK0 hv R hi]
      · have e : pv_bk v f.2.2 (p - 200 * v.2 0 1) i = ((pv_bk v f.2.2 (p - 200 * v.2 0 1) i).toNat : Int) := by omega
        have hb2 := hv.2.2.2.2.1 (pv_bk v f.2.2 (p - 200 * v.2 0 1) i).toNat (by omega)
        have r3 := m_ofK1 hv R (i := (pv_bk v f.2.2 (p - 200 * v.2 0 1) i).toNat) (by omega)
        rw [← e] at r3
        by_cases g : v.2 10 (pv_bk v f.2.2 (p - 200 * v.2 0 1) i).toNat < v.2 10 i
        · rw [show pv_bk v f.2.2 (p - 200 * v.2 0 1) (i + 1) = i from if_pos ⟨c, Or.inr g⟩]
          simp (disch := omega) only [xI_le, xI_lt, xI_eq, xI_0, xI_ib, if_pos, if_neg, if_true, if_false, xI_cl, Int.toNat_natCast, iI_m, iI_a, iI_s, iI_1, xI_n, Option.bind_some, Int.natCast_add, Int.natCast_one, xI_zb, if_bI0, if_bI1, xI_rn, xI_ti, show (2 : Int).toNat = 2 from rfl, show (4 : Int).toNat = 4 from rfl, R.1.2.2.1, R.1.2.2.2.2.1, r1, m_ofK0 hv R hi, m_ofK1 hv R hi, r3]
        · rw [show pv_bk v f.2.2 (p - 200 * v.2 0 1) (i + 1) = pv_bk v f.2.2 (p - 200 * v.2 0 1) i from if_neg (fun z => by rcases z.2 with z | z <;> omega)]
          simp (disch := omega) only [xI_le, xI_lt, xI_eq, xI_0, xI_ib, if_pos, if_neg, if_true, if_false, xI_cl, Int.toNat_natCast, iI_m, iI_a, iI_s, iI_1, xI_n, Option.bind_some, Int.natCast_add, Int.natCast_one, xI_zb, if_bI0, if_bI1, xI_rn, xI_ti, show (2 : Int).toNat = 2 from rfl, show (4 : Int).toNat = 4 from rfl, R.1.2.2.1, R.1.2.2.2.2.1, r1, m_ofK0 hv R hi, m_ofK1 hv R hi, r3]
    · rw [show pv_bk v f.2.2 (p - 200 * v.2 0 1) (i + 1) = pv_bk v f.2.2 (p - 200 * v.2 0 1) i from if_neg (fun z => c z.1)]
      by_cases d : 0 < f.2.2 i
      · simp (disch := omega) only [xI_le, xI_lt, xI_eq, xI_0, xI_ib, if_pos, if_neg, if_true, if_false, xI_cl, Int.toNat_natCast, iI_m, iI_a, iI_s, iI_1, xI_n, Option.bind_some, Int.natCast_add, Int.natCast_one, xI_zb, if_bI0, if_bI1, xI_rn, xI_ti, show (2 : Int).toNat = 2 from rfl, show (4 : Int).toNat = 4 from rfl, R.1.2.2.1, R.1.2.2.2.2.1, r1, m_ofK0 hv R hi]
      · simp (disch := omega) only [xI_le, xI_lt, xI_eq, xI_0, xI_ib, if_pos, if_neg, if_true, if_false, xI_cl, Int.toNat_natCast, iI_m, iI_a, iI_s, iI_1, xI_n, Option.bind_some, Int.natCast_add, Int.natCast_one, xI_zb, if_bI0, if_bI1, xI_rn, xI_ti, show (2 : Int).toNat = 2 from rfl, R.1.2.2.1, r1])
  refine Eq.trans s ?_
  show f_X12_kindFor_4 _ _ _ _ = _
  rw [e_X12_kindFor_4]
  simp (disch := omega) only [xI_le, xI_lt, xI_eq, xI_0, xI_ib, if_pos, if_neg, if_true, if_false, xI_cl, Int.toNat_natCast, iI_m, iI_a, iI_s, iI_1, xI_n, Option.bind_some, Int.natCast_add, Int.natCast_one, xI_zb, if_bI0, if_bI1, xI_rn, xI_ti, show (2 : Int).toNat = 2 from rfl, R.1.2.2.1]
theorem mo_pl.eq {h h' : am_H} {v : pv_T} (e : h'.1 (.inl 0) 2 = h.1 (.inl 0) 2) (R : mo_pl h v) : mo_pl h' v := by unfold mo_pl; rw [e]; exact R
theorem m_lays (hv : pv_ok v) (R : mo_pl h v) : ∃ h', f_X12_laysFlourishes h = some h' ∧ (∀ i, i ≤ v.1 1 → h'.1 (.inl 0) 10 i = iI ((pv_fs v (v.1 1 + 1)).2.1 i)) ∧ (∀ q, q < v.1 2 → h'.1 (.inl 0) 11 q = iI ((pv_fs v (v.1 1 + 1)).2.2 q)) := by
  have h8 := hv.1
  have hm := hv.2.2.2.2.2.2
  obtain ⟨s1, e1, w1, p1⟩ := ch_rel (fun i s => f_X12_laysFlourishes_2 (iI i) s) (fun i s => Wr [(.inl 0, 11)] h s ∧ ∀ j, j < i → s.1 (.inl 0) 11 j = iI (v.2 11 j)) (n := v.1 2) (fun i s hi hp => by
    obtain ⟨w, p⟩ := hp
    have Rs := R.eq (w.1 (.inl 0) 2 (by simp))
    refine ⟨am_u s (.inl 0) 11 i (iI (v.2 11 i)), ?_, w.tr (Wr.u (by simp)), fun j hj => ?_⟩
    · show f_X12_laysFlourishes_2 _ _ = f_X12_laysFlourishes_2 _ _
      rw [e_X12_laysFlourishes_2]
      simp (disch := omega) only [xI_le, xI_lt, xI_eq, xI_0, xI_ib, if_pos, if_neg, if_true, if_false, xI_cl, Int.toNat_natCast, iI_m, iI_a, iI_s, iI_1, xI_n, Option.bind_some, Int.natCast_add, Int.natCast_one, xI_zb, if_bI0, if_bI1, xI_rn, xI_ti, show (2 : Int).toNat = 2 from rfl, Rs.1.2.2.1, m_ofK2 hv Rs hi, am_lt]
    · rw [au_s]
      by_cases c : j = i
      · subst c; rw [if_pos rfl]
      · rw [if_neg c]; exact p j (by omega)) (s0 := h) ⟨Wr.rf, fun j hj => by omega⟩
  have R1 := R.eq (w1.1 (.inl 0) 2 (by simp))
  obtain ⟨s2, e2, w2, p2⟩ := ch_rel (fun i s => f_X12_laysFlourishes_32 (iI i) s) (fun i s => Wr [(.inl 0, 12)] s1 s ∧ ∀ j, j < i → s.1 (.inl 0) 12 j = iI (pv_rm v j)) (n := v.1 1 + 1) (fun i s hi hp => by
    obtain ⟨w, p⟩ := hp
    have Rs := R1.eq (w.1 (.inl 0) 2 (by simp))
    refine ⟨am_u s (.inl 0) 12 i (iI (pv_rm v i)), ?_, w.tr (Wr.u (by simp)), fun j hj => ?_⟩
    · show f_X12_laysFlourishes_32 _ _ = f_X12_laysFlourishes_32 _ _
      rw [e_X12_laysFlourishes_32]
      simp (disch := omega) only [xI_le, xI_lt, xI_eq, xI_0, xI_ib, if_pos, if_neg, if_true, if_false, xI_cl, Int.toNat_natCast, iI_m, iI_a, iI_s, iI_1, xI_n, Option.bind_some, Int.natCast_add, Int.natCast_one, xI_zb, if_bI0, if_bI1, xI_rn, xI_ti, Int.toNat_one, Rs.1.2.1, m_roomOf hv Rs (i := i) (by omega), am_lt]
    · rw [au_s]
      by_cases c : j = i
      · subst c; rw [if_pos rfl]
      · rw [if_neg c]; exact p j (by omega)) (s0 := s1) ⟨Wr.rf, fun j hj => by omega⟩
  have R2 := R1.eq (w2.1 (.inl 0) 2 (by simp))
  obtain ⟨⟨D3, s3⟩, e3, R3, Rf3⟩ := ch_rel (σ := Int32 × am_H) (fun i s => f_X12_laysFlourishes_63 s.1 (iI i) s.2) (fun i s => mo_pl s.2 v ∧ mo_fs s.2 v s.1 (pv_fs v i)) (n := v.1 1 + 1) (fun i s hi hp => by
    obtain ⟨D, s⟩ := s
    obtain ⟨Rs, Rf⟩ := hp
    have Rs : mo_pl s v := Rs
    have Rf : mo_fs s v D (pv_fs v i) := Rf
    obtain ⟨q1, q2, q3⟩ := pv_fs_ok hv i (by omega)
    have hne := pv_lg_ne v (pv_fs v i).1 (v.1 1 + 1) (by omega)
    have hb := pv_lg_b v (pv_fs v i).1 (v.1 1 + 1)
    have hr : pv_lg v (pv_fs v i).1 (v.1 1 + 1) = (fs_r v (pv_fs v i) : Int) := by unfold fs_r; omega
    have hr2 : fs_r v (pv_fs v i) ≤ v.1 1 := by omega
    have hrb := pv_rm_b hv hr2
    have hk := pv_bk_b v (pv_fs v i).2.2 (pv_rm v (fs_r v (pv_fs v i)) - 200 * v.2 0 1) (v.1 2)
    have kb := m_kindFor hv Rs Rf q3 (p := pv_rm v (fs_r v (pv_fs v i))) (by omega)
    rw [show pv_bk v (pv_fs v i).2.2 (pv_rm v (fs_r v (pv_fs v i)) - 200 * v.2 0 1) (v.1 2) = fs_b v (pv_fs v i) from rfl] at kb hk
    have kl := m_largest hv Rs Rf
    rw [hr] at kl
    have r12 := (Rf.1 _ hr2).2.2
    obtain ⟨h1, eh1⟩ : ∃ h1, h1 = am_u s (.inl 0) 10 (fs_r v (pv_fs v i)) (iI (fs_b v (pv_fs v i))) := ⟨_, rfl⟩
    obtain ⟨h2, eh2⟩ : ∃ h2, h2 = if fs_b v (pv_fs v i) = -1 then h1 else am_u h1 (.inl 0) 11 (fs_b v (pv_fs v i)).toNat (h1.1 (.inl 0) 11 (fs_b v (pv_fs v i)).toNat - iI 1) := ⟨_, rfl⟩
    have w9 : Wr [(.inl 0, 10), (.inl 0, 11)] s h2 := by
      have a : Wr [(.inl 0, 10), (.inl 0, 11)] s h1 := by rw [eh1]; exact Wr.u (by simp)
      rw [eh2]
      split
      · exact a
      · exact a.tr (Wr.u (by simp))
    refine ⟨(D ||| (iI 1 <<< (iI (fs_r v (pv_fs v i)) &&& 31)), h2), ?_, Rs.eq (w9.1 (.inl 0) 2 (by simp)), fun j hj => ⟨?_, ?_, ?_⟩, fun q hq => ?_⟩
    · show f_X12_laysFlourishes_63 _ _ _ = f_X12_laysFlourishes_63 _ _ _
      rw [e_X12_laysFlourishes_63]
      by_cases c : fs_b v (pv_fs v i) = -1
      · rw [eh2, if_pos c]
        simp (disch := omega) only [xI_le, xI_lt, xI_eq, xI_0, xI_ib, if_pos, if_neg, if_true, if_false, xI_cl, Int.toNat_natCast, iI_m, iI_a, iI_s, iI_1, xI_n, Option.bind_some, Int.natCast_add, Int.natCast_one, xI_zb, if_bI0, if_bI1, xI_rn, xI_ti, Int.toNat_one, Rs.1.2.1, kl, r12, kb, am_lt, ← eh1]
      · rw [eh2, if_neg c]
        simp (disch := omega) only [xI_le, xI_lt, xI_eq, xI_0, xI_ib, if_pos, if_neg, if_true, if_false, xI_cl, Int.toNat_natCast, iI_m, iI_a, iI_s, iI_1, xI_n, Option.bind_some, Int.natCast_add, Int.natCast_one, xI_zb, if_bI0, if_bI1, xI_rn, xI_ti, Int.toNat_one, Rs.1.2.1, kl, r12, kb, am_lt, ← eh1]
    · show bt (D ||| (iI 1 <<< (iI (fs_r v (pv_fs v i)) &&& 31))) j = fu (pv_fs v i).1 (fs_r v (pv_fs v i)) true j
      rw [← iI_nI (fs_r v (pv_fs v i)), show iI 1 = 1 from rfl, or_bt (by omega) (by omega), (Rf.1 j hj).1]
      unfold fu
      by_cases c : j = fs_r v (pv_fs v i)
      · rw [if_pos c, decide_eq_true c, Bool.or_true]
      · rw [if_neg c, decide_eq_false c, Bool.or_false]
    · show fu (pv_fs v i).1 (fs_r v (pv_fs v i)) true j = true → h2.1 (.inl 0) 10 j = iI (fu (pv_fs v i).2.1 (fs_r v (pv_fs v i)) (fs_b v (pv_fs v i)) j)
      have e10 : h2.1 (.inl 0) 10 = h1.1 (.inl 0) 10 := by
        rw [eh2]
        split
        · rfl
        · rw [am_u_row (by simp)]
      rw [e10, eh1, au_s]
      intro hs
      by_cases c : j = fs_r v (pv_fs v i)
      · rw [if_pos c, c, fu_s]
      · rw [fu_o c] at hs
        rw [if_neg c, fu_o c]
        exact (Rf.1 j hj).2.1 hs
    · rw [w9.1 (.inl 0) 12 (by simp)]
      exact (Rf.1 j hj).2.2
    · show h2.1 (.inl 0) 11 q = iI ((if fs_b v (pv_fs v i) = -1 then (pv_fs v i).2.2 else fu (pv_fs v i).2.2 (fs_b v (pv_fs v i)).toNat ((pv_fs v i).2.2 (fs_b v (pv_fs v i)).toNat - 1)) q)
      have r7 : h1.1 (.inl 0) 11 = s.1 (.inl 0) 11 := by rw [eh1, am_u_row (by simp)]
      rw [eh2]
      by_cases c : fs_b v (pv_fs v i) = -1
      · rw [if_pos c, if_pos c, r7]
        exact Rf.2 q hq
      · rw [if_neg c, if_neg c, au_s, r7]
        by_cases d : q = (fs_b v (pv_fs v i)).toNat
        · rw [if_pos d, d, fu_s, Rf.2 _ (by omega), iI_s]
        · rw [if_neg d, fu_o d]
          exact Rf.2 q hq) (s0 := (iI 0, s2)) ⟨R2, fun j hj => ⟨by rw [show iI 0 = 0 from rfl, b_0]; rfl, (fun z => Bool.noConfusion z), p2 j (by omega)⟩, fun q hq => by rw [w2.1 _ _ (by simp)]; exact p1 q hq⟩
  have R3 : mo_pl s3 v := R3
  have Rf3 : mo_fs s3 v D3 (pv_fs v (v.1 1 + 1)) := Rf3
  have hall := cN_all (pv_fs_ok hv (v.1 1 + 1) (Nat.le_refl _)).1
  refine ⟨s3, ?_, fun i hi => (Rf3.1 i hi).2.1 (hall i (by omega)), Rf3.2⟩
  have t1 : f_X12_laysFlourishes_2 (iI (v.1 2)) s1 = f_X12_laysFlourishes_32 (iI (0 : Nat)) s1 := by
    rw [e_X12_laysFlourishes_2]
    simp (disch := omega) only [xI_le, xI_lt, xI_eq, xI_0, xI_ib, if_pos, if_neg, if_true, if_false, xI_cl, Int.toNat_natCast, iI_m, iI_a, iI_s, iI_1, xI_n, Option.bind_some, Int.natCast_add, Int.natCast_one, xI_zb, if_bI0, if_bI1, xI_rn, xI_ti, show (2 : Int).toNat = 2 from rfl, R1.1.2.2.1]
    rfl
  have t2 : f_X12_laysFlourishes_32 (iI (v.1 1 + 1 : Nat)) s2 = f_X12_laysFlourishes_63 (iI 0) (iI (0 : Nat)) s2 := by
    rw [e_X12_laysFlourishes_32]
    simp (disch := omega) only [xI_le, xI_lt, xI_eq, xI_0, xI_ib, if_pos, if_neg, if_true, if_false, xI_cl, Int.toNat_natCast, iI_m, iI_a, iI_s, iI_1, xI_n, Option.bind_some, Int.natCast_add, Int.natCast_one, xI_zb, if_bI0, if_bI1, xI_rn, xI_ti, Int.toNat_one, R2.1.2.1]
    rfl
  have t3 : f_X12_laysFlourishes_63 D3 (iI (v.1 1 + 1 : Nat)) s3 = some s3 := by
    rw [e_X12_laysFlourishes_63]
    simp (disch := omega) only [xI_le, xI_lt, xI_eq, xI_0, xI_ib, if_pos, if_neg, if_true, if_false, xI_cl, Int.toNat_natCast, iI_m, iI_a, iI_s, iI_1, xI_n, Option.bind_some, Int.natCast_add, Int.natCast_one, xI_zb, if_bI0, if_bI1, xI_rn, xI_ti, Int.toNat_one, R3.1.2.1]
  show f_X12_laysFlourishes_2 (iI (0 : Nat)) h = _
  refine Eq.trans e1 ?_
  show f_X12_laysFlourishes_2 (iI (v.1 2)) s1 = _
  rw [t1]
  refine Eq.trans e2 ?_
  show f_X12_laysFlourishes_32 (iI (v.1 1 + 1 : Nat)) s2 = _
  rw [t2]
  refine Eq.trans e3 ?_
  exact t3
end MOF
