/-! step by step: a function answers, and what is asked of the answer holds -/
def Aok {α : Type} (P : α → Prop) (r : Option α) : Prop := ∃ a, r = some a ∧ P a
theorem iS (k : Nat) : iI (k : Int) + 1 = iI ((k + 1 : Nat) : Int) := iI_1 _
section AOK
variable {α β : Type} {P : β → Prop} {d : dm_D} {h : am_H} {st' : St} {o : Int32 ⊕ Nat} {x : Int32}
theorem Aok.b {r : Option α} {a : α} {K : α → Option β} (e : r = some a) (k : Aok P (K a)) : Aok P (r.bind K) := by
  rw [e]
  exact k
theorem Aok.t {c : Prop} [Decidable c] {a b : Option β} (hc : c) (k : Aok P a) : Aok P (if c then a else b) := by
  rw [if_pos hc]
  exact k
theorem Aok.f {c : Prop} [Decidable c] {a b : Option β} (hc : ¬ c) (k : Aok P b) : Aok P (if c then a else b) := by
  rw [if_neg hc]
  exact k
theorem Aok.d {a : β} (h : P a) : Aok P (some a) := ⟨a, rfl, h⟩
theorem Aok.e {r r' : Option β} (e : r = r') (k : Aok P r') : Aok P r := by
  rw [e]
  exact k
theorem Aok.cv {call : am_H → Option ((Int32 ⊕ Nat) × am_H)} {K : (Int32 ⊕ Nat) × am_H → Int32 → Option β} (q : clC call h st' o) (e : o = .inl x) (hf : dm_full d) (k : ∀ h1, ClR h1 st' → Aok P (K (.inl x, h1) x)) : Aok P ((dm_cl d (call h)).bind (fun a => (dm_v a.1).bind (fun b => K a b))) := by
  obtain ⟨h1, e1, C1, -⟩ := q
  subst e
  rw [e1, dm_cl_of hf]
  exact k h1 C1
theorem Aok.cr {f : am_H → Option (Int32 ⊕ Nat)} {K : (Int32 ⊕ Nat) → Int32 → Option β} (q : clC (fun h => (f h).map (fun a => (a, h))) h st' o) (e : o = .inl x) (hf : dm_full d) (k : Aok P (K (.inl x) x)) : Aok P ((dm_cl d (f h)).bind (fun a => (dm_v a).bind (fun b => K a b))) := by
  obtain ⟨h1, e1, C1, -⟩ := q
  subst e
  have e2 : f h = some (.inl x) := by
    cases hh : f h with
    | none => rw [hh] at e1; cases e1
    | some a =>
      rw [hh] at e1
      have := congrArg Prod.fst (Option.some.inj e1)
      exact congrArg some this
  rw [e2, dm_cl_of hf]
  exact k
theorem Aok.ci {call : Option (Int32 × am_H)} {K : Int32 × am_H → Option β} (q : ∃ h1, call = some (x, h1) ∧ ClR h1 st' ∧ MFr h h1) (hf : dm_full d) (k : ∀ h1, ClR h1 st' → Aok P (K (x, h1))) : Aok P ((dm_cl d call).bind K) := by
  obtain ⟨h1, e1, C1, -⟩ := q
  rw [e1, dm_cl_of hf]
  exact k h1 C1
end AOK
/-! what holds behind each change -/
section OLE
variable {st : St} {k : Nat}
theorem oLet_0 (hk : k < st.1.1 1) : oLet st k 0 = .inl (iI (st.1.2 5 k)) := by unfold oLet; rw [if_pos (by omega), Int.toNat_natCast]; rfl
theorem oLet_1 (hk : k < st.1.1 1) : oLet st k 1 = .inl (iI (1000 * pv_w st.1 k)) := by unfold oLet; rw [if_pos (by omega), Int.toNat_natCast]; rfl
theorem oLet_2 (hk : k < st.1.1 1) : oLet st k 2 = .inl (iI (pv_ct st.1 k)) := by unfold oLet; rw [if_pos (by omega), Int.toNat_natCast]; rfl
theorem oLet_3 (hk : k < st.1.1 1) : oLet st k 3 = .inl (iI (pv_cp st.1 k)) := by unfold oLet; rw [if_pos (by omega), Int.toNat_natCast]; rfl
theorem oLet_4 (hk : k < st.1.1 1) : oLet st k 4 = .inl (iI (pv_le st.1 k)) := by unfold oLet; rw [if_pos (by omega), Int.toNat_natCast]; rfl
theorem oLet_5 (hk : k < st.1.1 1) : oLet st k 5 = .inl (iI (pv_re st.1 k)) := by unfold oLet; rw [if_pos (by omega), Int.toNat_natCast]; rfl
theorem oLet_6 (hk : k < st.1.1 1) : oLet st k 6 = .inl (iI (pv_bT st.1 (pv_ct st.1 k) (st.1.1 0) % 3600)) := by unfold oLet; rw [if_pos (by omega), Int.toNat_natCast]; rfl
theorem oLet_7 (hk : k < st.1.1 1) : oLet st k 7 = .inl (iI (pv_ar st.1 (pv_ct st.1 k))) := by unfold oLet; rw [if_pos (by omega), Int.toNat_natCast]; rfl
theorem oLet_8 (hk : k < st.1.1 1) : oLet st k 8 = .inl (iI (st.1.2 6 k)) := by unfold oLet; rw [if_pos (by omega), Int.toNat_natCast]; rfl
theorem oLet_9 (hk : k < st.1.1 1) : oLet st k 9 = .inl (iI (bI (pv_iS st.1 k))) := by unfold oLet; rw [if_pos (by omega), Int.toNat_natCast]; rfl
theorem oLet_10 (hk : k < st.1.1 1) : oLet st k 10 = .inl (iI (1 + st.1.2 5 k % 4)) := by unfold oLet; rw [if_pos (by omega), Int.toNat_natCast]; rfl
theorem oLet_11 (hk : k < st.1.1 1) : oLet st k 11 = .inl (iI (st.1.2 7 k)) := by unfold oLet; rw [if_pos (by omega), Int.toNat_natCast]; rfl
theorem oLet_12 (hk : k < st.1.1 1) : oLet st k 12 = .inl (iI (cN (fun j => decide (st.1.2 12 j = (k : Int))) (st.1.1 3))) := by unfold oLet; rw [if_pos (by omega), Int.toNat_natCast]; rfl
theorem oScr_0 (hk : k < st.1.1 3) : oScr st k 0 = .inl (iI (st.1.2 12 k)) := by unfold oScr; rw [if_pos (by omega), Int.toNat_natCast]; rfl
theorem oScr_1 (hk : k < st.1.1 3) : oScr st k 1 = .inl (iI (st.1.2 13 k)) := by unfold oScr; rw [if_pos (by omega), Int.toNat_natCast]; rfl
theorem oScr_2 (hk : k < st.1.1 3) : oScr st k 2 = .inl (iI (pv_sb st.1 k)) := by unfold oScr; rw [if_pos (by omega), Int.toNat_natCast]; rfl
theorem oRoom_e (hk : k ≤ st.1.1 1) : oRoom st k = .inl (iI (pv_rm st.1 k)) := by unfold oRoom; rw [if_pos (by omega), Int.toNat_natCast]
theorem oFi_e (hk : k ≤ st.1.1 1) : oFi st k = .inl (iI ((pv_fs st.1 (st.1.1 1 + 1)).2.1 k)) := by unfold oFi; rw [if_pos (by omega), Int.toNat_natCast]
theorem oSl_e (hk : k < st.1.1 2) : oSl st k = .inl (iI ((pv_fs st.1 (st.1.1 1 + 1)).2.2 k)) := by unfold oSl; rw [if_pos (by omega), Int.toNat_natCast]
end OLE
section PUR
variable {v : pv_T}
theorem crS_bt {m k : Nat} (hk : k < 31) (hm : m ≤ 31) : bt (pv_crS v m) k = decide (k < m ∧ pv_rm v k < 100 * v.2 0 1) := by
  induction m with
  | zero =>
    show bt 0 k = _
    rw [b_0, decide_eq_false (by omega)]
  | succ m ih =>
    unfold pv_crS
    by_cases c : pv_rm v m < 100 * v.2 0 1
    · rw [if_pos c, show (iI 1 <<< (iI (m : Int) &&& 31)) = ((1 : Int32) <<< (nI m &&& 31)) by rw [iI_nI]; rfl, or_bt (by omega) hk, ih (by omega)]
      by_cases e : k = m
      · subst e
        rw [decide_eq_true (show k = k from rfl), decide_eq_true (show k < k + 1 ∧ _ from ⟨by omega, c⟩), Bool.or_true]
      · rw [decide_eq_false e, Bool.or_false]
        congr 1
        refine propext ⟨fun z => ⟨by omega, z.2⟩, fun z => ⟨by omega, z.2⟩⟩
    · rw [if_neg c, ih (by omega)]
      congr 1
      refine propext ⟨fun z => ⟨by omega, z.2⟩, fun z => ⟨?_, z.2⟩⟩
      have h1 := z.1
      by_cases e : k = m
      · subst e; exact absurd z.2 c
      · omega
theorem ti_min : ∀ (m k : Nat), k < m → pv_rm v (pv_ti v m) ≤ pv_rm v k
  | 0, k, h => by omega
  | m + 1, k, h => by
    unfold pv_ti
    by_cases c : pv_rm v m < pv_rm v (pv_ti v m)
    · rw [if_pos c]
      by_cases e : k = m
      · subst e; omega
      · have := ti_min m k (by omega); omega
    · rw [if_neg c]
      by_cases e : k = m
      · subst e; omega
      · exact ti_min m k (by omega)
theorem wo_b (hv : pv_ok v) {f : fs_T} (hf : ∀ i, -1 ≤ f.2.1 i ∧ f.2.1 i < v.1 2) : ∀ n, (cN (fun j => decide (0 ≤ f.2.1 j)) n : Int) ≤ pv_wo v f n ∧ pv_wo v f n ≤ 99 * n
  | 0 => by
    show (0 : Int) ≤ 0 ∧ (0 : Int) ≤ 99 * 0
    omega
  | n + 1 => by
    have ih := wo_b hv hf n
    have h1 := hf n
    unfold pv_wo
    by_cases c : f.2.1 n = -1
    · rw [if_pos c, cN_f (p := fun j => decide (0 ≤ f.2.1 j)) (decide_eq_false (by omega))]
      omega
    · have h2 := hv.2.2.2.2.1 (f.2.1 n).toNat (by omega)
      rw [if_neg c, cN_t (p := fun j => decide (0 ≤ f.2.1 j)) (decide_eq_true (by omega))]
      omega
theorem iS_of {s : Nat} (hs : s < v.1 3) : pv_iS v (pv_sb v s) := by
  have hm := pv_fst_le (fun i => decide (pv_sb v i = pv_sb v s)) (v.1 3) 0
  have hlt := pv_fst_lt (fun i => decide (pv_sb v i = pv_sb v s)) (v.1 3) 0 s (Nat.zero_le _)
  unfold pv_iS
  refine Nat.not_le.mp (fun z => ?_)
  have := hlt (by omega)
  rw [decide_eq_true (show pv_sb v s = pv_sb v s from rfl)] at this
  cases this
theorem sb_lt {s : Nat} : pv_sb v s < v.1 1 := by
  unfold pv_sb
  split
  · next c => exact c.1
  · omega
theorem cN_0 {p : Nat → Bool} : ∀ n, (∀ i, i < n → p i = false) → cN p n = 0
  | 0, _ => rfl
  | n + 1, h => by rw [cN_f (h n (by omega)), cN_0 n (fun i hi => h i (by omega))]
theorem inv_cnt {k : Nat} (I : Inv v) (hk : v.2 6 k = 0) : cN (fun j => decide (v.2 12 j = (k : Int))) (v.1 3) = 0 := cN_0 _ (fun i hi => decide_eq_false (fun z => by
  have := (I i hi).1
  rw [z, Int.toNat_natCast, hk] at this
  omega))
theorem fr_step (hv : pv_ok v) {k : Nat} (hk : k < v.1 1) : pv_fr v k + pv_rm v k + 1000 * pv_w v k = pv_fr v (k + 1) := by
  show _ = pv_re v k
  unfold pv_rm pv_le pv_re
  rw [if_pos hk]
  omega
theorem fr_last : pv_fr v (v.1 1) + pv_rm v (v.1 1) = pv_wP v := by
  unfold pv_rm
  rw [if_neg (by omega)]
  omega
theorem fr_b (hv : pv_ok v) {k : Nat} (hk : k ≤ v.1 1) : 0 ≤ pv_fr v k ∧ pv_fr v k ≤ 2915600 := by
  cases k with
  | zero => exact ⟨Int.le_refl _, by show (0 : Int) ≤ 2915600; omega⟩
  | succ i => exact pv_re_b hv (by omega)
end PUR
theorem wik {d : dm_D} {i q p : Nat} {g : Nat → Int32} {y : Int32} (o : dAr d i 0 q g) (hk : p < q) (hn : q < 2147483648) : dm_wi d (.inl 0, i) 0 (iI (p : Int)) y = some (dm_se d i (.inr (.inl (0, q, upd g p y)))) := by
  rw [wi_at o (ib1 hk hn), iI_cl (by omega)]
def HP (st : St) (d : dm_D) (c : Nat) (a : Int32 × am_H × dm_D) : Prop := a.1 = iI 1 ∧ ClR a.2.1 st ∧ Ext c d a.2.2
section HOL
variable {X : dm_X} {d d0 : dm_D} {st : St} {c q : Nat} {u : Nat → Int32}
theorem h412 (ok : Ok st) (hf : dm_full d) {x : Nat} (hx : (x : Int) ≤ pv_wo st.1 (pv_fs st.1 (st.1.1 1 + 1)) (st.1.1 1 + 1)) (E : Ext c d0 d) : ∀ (m k : Nat) (h : am_H), k + m = st.1.1 2 → ClR h st → Aok (HP st d0 c) (F_L_holds_412 X (iI x) (iI k) h d) := by
  have hv := ok.1.1
  have h8 := hv.1
  obtain ⟨-, p2, p3⟩ := pv_fs_ok hv (st.1.1 1 + 1) (Nat.le_refl _)
  have hw := wo_b hv p2 (st.1.1 1 + 1)
  intro m
  induction m with
  | zero =>
    intro k h hk C
    rw [E_L_holds_412]
    refine Aok.cv (cl_setting ok C (t := 2) (by omega)) rfl hf (fun h1 C1 => ?_)
    refine Aok.t (by rw [xI_le (by omega) (by omega) (by omega) (by omega)]; omega) ?_
    refine Aok.ci (cl_worth ok C1) hf (fun h2 C2 => ?_)
    refine Aok.f (show ¬ (iI _ < iI _) by rw [xI_lt (by omega) (by omega) (by omega) (by omega)]; omega) ?_
    exact Aok.d ⟨rfl, C2, E⟩
  | succ m ih =>
    intro k h hk C
    have h3 := p3 k (by omega)
    rw [E_L_holds_412]
    refine Aok.cv (cl_setting ok C (t := 2) (by omega)) rfl hf (fun h1 C1 => ?_)
    refine Aok.f (by rw [xI_le (by omega) (by omega) (by omega) (by omega)]; omega) ?_
    refine Aok.cv (cl_stockLeft ok C1 (r := (k : Int)) (by omega)) (oSl_e (by omega)) hf (fun h2 C2 => ?_)
    refine Aok.t (by rw [xI_0, xI_le (by omega) (by omega) (by omega) (by omega)]; omega) ?_
    rw [iS]
    exact ih (k + 1) h2 (by omega) C2
theorem h378 (ok : Ok st) (hf : dm_full d) (E : Ext c d0 d) : ∀ (m k : Nat) (h : am_H), k + m = st.1.1 1 + 1 → ClR h st → Aok (HP st d0 c) (F_L_holds_378 X (iI (st.1.1 1)) (iI (cN (fun j => decide (0 ≤ (pv_fs st.1 (st.1.1 1 + 1)).2.1 j)) k)) (iI k) h d) := by
  have hv := ok.1.1
  have h8 := hv.1
  obtain ⟨-, p2, p3⟩ := pv_fs_ok hv (st.1.1 1 + 1) (Nat.le_refl _)
  have hw := wo_b hv p2 (st.1.1 1 + 1)
  intro m
  induction m with
  | zero =>
    intro k h hk C
    obtain rfl : k = st.1.1 1 + 1 := by omega
    rw [E_L_holds_378]
    refine Aok.t (by rw [xI_lt (by omega) (by omega) (by omega) (by omega)]; omega) ?_
    exact h412 ok hf hw.1 E (st.1.1 2) 0 h (Nat.zero_add _) C
  | succ m ih =>
    intro k h hk C
    have h3 := p2 k
    rw [E_L_holds_378]
    refine Aok.f (by rw [xI_lt (by omega) (by omega) (by omega) (by omega)]; omega) ?_
    refine Aok.cv (cl_flourishIn ok C (r := (k : Int)) (by omega)) (oFi_e (by omega)) hf (fun h1 C1 => ?_)
    by_cases z : 0 ≤ (pv_fs st.1 (st.1.1 1 + 1)).2.1 k
    · refine Aok.t (by rw [xI_0, xI_le (by omega) (by omega) (by omega) (by omega)]; exact z) ?_
      have := ih (k + 1) h1 (by omega) C1
      rw [cN_t (p := fun j => decide (0 ≤ (pv_fs st.1 (st.1.1 1 + 1)).2.1 j)) (decide_eq_true z)] at this
      rw [iS, iI_a]
      exact this
    · refine Aok.f (by rw [xI_0, xI_le (by omega) (by omega) (by omega) (by omega)]; exact z) ?_
      have := ih (k + 1) h1 (by omega) C1
      rw [cN_f (p := fun j => decide (0 ≤ (pv_fs st.1 (st.1.1 1 + 1)).2.1 j)) (decide_eq_false z)] at this
      rw [iS, iI_a, Int.add_zero]
      exact this
theorem h342 (ok : Ok st) (hf : dm_full d) (E : Ext c d0 d) (o : dAr d q 0 20 u) (hu : ∀ k, k < 20 → u k = iI (cN (fun j => decide (st.1.2 12 j = (k : Int))) (st.1.1 3))) : ∀ (m k : Nat) (h : am_H), k + m = st.1.1 1 → ClR h st → Aok (HP st d0 c) (F_L_holds_342 X (iI (st.1.1 1)) (.inl 0, q) (iI k) h d) := by
  have hv := ok.1.1
  have h8 := hv.1
  intro m
  induction m with
  | zero =>
    intro k h hk C
    rw [E_L_holds_342]
    refine Aok.t (by rw [xI_le (by omega) (by omega) (by omega) (by omega)]; omega) ?_
    exact h378 ok hf E (st.1.1 1 + 1) 0 h (Nat.zero_add _) C
  | succ m ih =>
    intro k h hk C
    rw [E_L_holds_342]
    refine Aok.f (by rw [xI_le (by omega) (by omega) (by omega) (by omega)]; omega) ?_
    refine Aok.b (lik o k (by omega) (by omega)) ?_
    refine Aok.cv (cl_letter ok C (a := (k : Int)) (t := 12) (by omega) (by omega)) (oLet_12 (by omega)) hf (fun h1 C1 => ?_)
    refine Aok.t (hu k (by omega)) ?_
    rw [iS]
    exact ih (k + 1) h1 (by omega) C1
theorem h242 (ok : Ok st) (I : Inv st.1) (hf0 : dm_full d0) (hq : d0.1 ≤ q) : ∀ (m k : Nat) (h : am_H) (d : dm_D) (u : Nat → Int32), k + m = st.1.1 3 → ClR h st → Ext c d0 d → dAr d q 0 20 u → (∀ i, i < 20 → u i = iI (cN (fun j => decide (st.1.2 12 j = (i : Int))) k)) → Aok (HP st d0 c) (F_L_holds_242 X (iI (st.1.1 1)) (.inl 0, q) (iI k) h d) := by
  have hv := ok.1.1
  have h8 := hv.1
  intro m
  induction m with
  | zero =>
    intro k h d u hk C E o hu
    obtain rfl : k = st.1.1 3 := by omega
    rw [E_L_holds_242]
    refine Aok.cv (cl_setting ok C (t := 7) (by omega)) rfl (E.full hf0) (fun h1 C1 => ?_)
    refine Aok.t (by rw [xI_le (by omega) (by omega) (by omega) (by omega)]; omega) ?_
    exact h342 ok (E.full hf0) E o hu (st.1.1 1) 0 h1 (Nat.zero_add _) C1
  | succ m ih =>
    intro k h d u hk C E o hu
    have hs : k < st.1.1 3 := by omega
    have h6 := hv.2.2.2.2.2.1 k hs
    obtain ⟨p, hp⟩ : ∃ p : Nat, st.1.2 12 k = p := ⟨(st.1.2 12 k).toNat, by omega⟩
    have hp2 : p < 20 := by omega
    have hI := (I k hs).2
    have hsb := pv_sb_b hv hs
    have e0 := oScr_0 hs
    rw [hp] at e0
    rw [E_L_holds_242]
    refine Aok.cv (cl_setting ok C (t := 7) (by omega)) rfl (E.full hf0) (fun h1 C1 => ?_)
    refine Aok.f (by rw [xI_le (by omega) (by omega) (by omega) (by omega)]; omega) ?_
    refine Aok.cv (cl_scratch ok C1 (a := (k : Int)) (t := 0) (by omega) (by omega)) e0 (E.full hf0) (fun h2 C2 => ?_)
    refine Aok.b (lik o p hp2 (by omega)) ?_
    refine Aok.b (wik o hp2 (by omega)) ?_
    have E1 : Ext c d0 (dm_se d q (.inr (.inl (0, 20, upd u p (u p + iI 1))))) := E.se hq
    have o1 : dAr (dm_se d q (.inr (.inl (0, 20, upd u p (u p + iI 1))))) q 0 20 (upd u p (u p + iI 1)) := dAr.se o.1
    have hu1 : ∀ i, i < 20 → upd u p (u p + iI 1) i = iI (cN (fun j => decide (st.1.2 12 j = (i : Int))) (k + 1)) := fun i hi => by
      by_cases e : i = p
      · subst e
        rw [cN_t (p := fun j => decide (st.1.2 12 j = (i : Int))) (decide_eq_true hp), show upd u i (u i + iI 1) i = u i + iI 1 from if_pos rfl, hu i hi, iI_a]
        rfl
      · rw [cN_f (p := fun j => decide (st.1.2 12 j = (i : Int))) (decide_eq_false (by omega)), show upd u p (u p + iI 1) i = u i from if_neg e, hu i hi]
    refine Aok.cv (cl_scratch ok C2 (a := (k : Int)) (t := 2) (by omega) (by omega)) (oScr_2 hs) (E1.full hf0) (fun h3 C3 => ?_)
    refine Aok.cv (cl_scratch ok C3 (a := (k : Int)) (t := 1) (by omega) (by omega)) (oScr_1 hs) (E1.full hf0) (fun h4 C4 => ?_)
    refine Aok.f (by decide) ?_
    refine Aok.t (by rw [xI_rn (by omega) (by omega) (by omega) (by omega), hI]; rfl) ?_
    refine Aok.cv (cl_scratch ok C4 (a := (k : Int)) (t := 1) (by omega) (by omega)) (oScr_1 hs) (E1.full hf0) (fun h5 C5 => ?_)
    refine Aok.f (by rw [xI_lt (by omega) (by omega) (by omega) (by omega)]; omega) ?_
    refine Aok.cv (cl_scratch ok C5 (a := (k : Int)) (t := 1) (by omega) (by omega)) (oScr_1 hs) (E1.full hf0) (fun h6 C6 => ?_)
    refine Aok.f (by rw [xI_lt (by omega) (by omega) (by omega) (by omega)]; omega) ?_
    by_cases z : pv_sb st.1 k < 0
    · refine Aok.t (by rw [xI_0, xI_lt (by omega) (by omega) (by omega) (by omega)]; exact z) ?_
      rw [iS]
      exact ih (k + 1) h6 _ _ (by omega) C6 E1 o1 hu1
    · refine Aok.f (by rw [xI_0, xI_lt (by omega) (by omega) (by omega) (by omega)]; exact z) ?_
      have hi := iS_of hs
      have hl := sb_lt (v := st.1) (s := k)
      obtain ⟨t, ht⟩ : ∃ t : Nat, pv_sb st.1 k = t := ⟨(pv_sb st.1 k).toNat, by omega⟩
      rw [ht] at hi hl ⊢
      have e9 := oLet_9 (st := st) (k := t) (by omega)
      rw [show bI (pv_iS st.1 (t : Int)) = 1 from if_pos hi] at e9
      refine Aok.cv (cl_letter ok C6 (a := (t : Int)) (t := 9) (by omega) (by omega)) e9 (E1.full hf0) (fun h7 C7 => ?_)
      refine Aok.t rfl ?_
      rw [iS]
      exact ih (k + 1) h7 _ _ (by omega) C7 E1 o1 hu1
theorem h13 (ok : Ok st) (I : Inv st.1) (hf : dm_full d) (hb : d.2.1 + 21 ≤ dm_L) : ∀ (m k : Nat) (h : am_H), k + m = st.1.1 1 + 1 → ClR h st → Aok (HP st d 21) (F_L_holds_13 X (iI (st.1.1 1)) (iI (if k ≤ st.1.1 1 then pv_fr st.1 k else pv_wP st.1)) (iI k) h d) := by
  have hv := ok.1.1
  have h8 := hv.1
  have hm := hv.2.2.2.2.2.2
  have hwT := pv_tW_b hv
  intro m
  induction m with
  | zero =>
    intro k h hk C
    rw [E_L_holds_13, if_neg (show ¬ k ≤ st.1.1 1 by omega)]
    refine Aok.t (by rw [xI_lt (by omega) (by omega) (by omega) (by omega)]; omega) ?_
    refine Aok.cv (cl_setting ok C (t := 4) (by omega)) rfl hf (fun h1 C1 => ?_)
    refine Aok.t rfl ?_
    refine Aok.b (na_at (by omega) (by omega) hb) ?_
    exact h242 ok I hf (Nat.le_refl _) (st.1.1 3) 0 h1 _ (fun _ => 0) (Nat.zero_add _) C1 Ext.nw dAr.nw (fun i hi => rfl)
  | succ m ih =>
    intro k h hk C
    have hkn : k ≤ st.1.1 1 := by omega
    have hr := pv_rm_b hv hkn
    have htl := pv_ti_le st.1 (st.1.1 1)
    have ht := pv_rm_b hv htl
    have hmin := ti_min (v := st.1) (st.1.1 1 + 1) k (by omega)
    have hfr := fr_b hv hkn
    rw [E_L_holds_13, if_pos hkn]
    refine Aok.f (by rw [xI_lt (by omega) (by omega) (by omega) (by omega)]; omega) ?_
    refine Aok.cv (cl_room ok C (r := (k : Int)) (by omega)) (oRoom_e hkn) hf (fun h1 C1 => ?_)
    refine Aok.ci (cl_crowded ok C1) hf (fun h2 C2 => ?_)
    have hbit : (((pv_crS st.1 (st.1.1 1 + 1)) >>> (iI (k : Int) &&& 31)) &&& iI 1 = iI 1) = (pv_rm st.1 k < 100 * st.1.2 0 1) := by
      rw [← iI_nI]
      refine (has_bt (D := pv_crS st.1 (st.1.1 1 + 1)) (k := k) (by omega)).trans ?_
      rw [crS_bt (by omega) (by omega), decide_eq_true_eq]
      exact propext ⟨fun z => z.2, fun z => ⟨by omega, z⟩⟩
    rw [iI_a]
    have key : ∀ (y : Int) (h2 : am_H), y = bI (pv_rm st.1 k < 100 * st.1.2 0 1) → ClR h2 st → Aok (HP st d 21) (F_L_holds_46 X (iI (st.1.1 1)) (iI (pv_fr st.1 k + pv_rm st.1 k)) (iI k) (iI y) h2 d) := by
      intro y h2 hy C2
      rw [E_L_holds_46]
      refine Aok.cv (cl_room ok C2 (r := (k : Int)) (by omega)) (oRoom_e hkn) hf (fun h3 C3 => ?_)
      refine Aok.cv (cl_setting ok C3 (t := 6) (by omega)) rfl hf (fun h4 C4 => ?_)
      rw [iI_m]
      have key2 : ∀ (h4 : am_H), ClR h4 st → Aok (HP st d 21) (F_L_holds_69 X (iI (st.1.1 1)) (iI (pv_fr st.1 k + pv_rm st.1 k)) (iI k) (iI y) (iI y) h4 d) := by
        intro h4 C4
        rw [E_L_holds_69]
        refine Aok.t rfl ?_
        refine Aok.cv (cl_room ok C4 (r := (k : Int)) (by omega)) (oRoom_e hkn) hf (fun h5 C5 => ?_)
        refine Aok.ci (cl_tightest ok C5) hf (fun h6 C6 => ?_)
        refine Aok.cv (cl_room ok C6 (r := (pv_ti st.1 (st.1.1 1 + 1) : Int)) (by omega)) (oRoom_e htl) hf (fun h7 C7 => ?_)
        refine Aok.t (by rw [xI_le (by omega) (by omega) (by omega) (by omega)]; exact hmin) ?_
        by_cases e : k = st.1.1 1
        · refine Aok.t (by rw [e]) ?_
          have := ih (k + 1) h7 (by omega) C7
          rw [if_neg (by omega)] at this
          rw [iS, show pv_fr st.1 k + pv_rm st.1 k = pv_wP st.1 by rw [e]; exact fr_last]
          exact this
        · refine Aok.f (by rw [xI_eq (by omega) (by omega) (by omega) (by omega)]; omega) ?_
          have hk2 : k < st.1.1 1 := by omega
          have hw := pv_w_b hv hk2
          have hle := pv_le_b hv hk2
          have hre := pv_re_b hv hk2
          have hct := pv_ct_b hv hk2
          have hcp := pv_cp_b hv k
          have h6 := hv.2.2.1 k hk2
          have e12 := oLet_12 hk2
          refine Aok.cv (cl_letter ok C7 (a := (k : Int)) (t := 1) (by omega) (by omega)) (oLet_1 hk2) hf (fun h8 C8 => ?_)
          refine Aok.cv (cl_letter ok C8 (a := (k : Int)) (t := 5) (by omega) (by omega)) (oLet_5 hk2) hf (fun h9 C9 => ?_)
          refine Aok.cv (cl_letter ok C9 (a := (k : Int)) (t := 4) (by omega) (by omega)) (oLet_4 hk2) hf (fun h10 C10 => ?_)
          refine Aok.cv (cl_letter ok C10 (a := (k : Int)) (t := 1) (by omega) (by omega)) (oLet_1 hk2) hf (fun h11 C11 => ?_)
          refine Aok.t (by rw [iI_s]; congr 1; unfold pv_re pv_le; omega) ?_
          refine Aok.cv (cl_letter ok C11 (a := (k : Int)) (t := 3) (by omega) (by omega)) (oLet_3 hk2) hf (fun h12 C12 => ?_)
          refine Aok.cv (cl_letter ok C12 (a := (k : Int)) (t := 2) (by omega) (by omega)) (oLet_2 hk2) hf (fun h13 C13 => ?_)
          refine Aok.cr (cl_partsAt ok C13 (t := pv_ct st.1 k) (by omega)) (if_pos ⟨hct.1, hct.2.1⟩) hf ?_
          refine Aok.t rfl ?_
          refine Aok.cv (cl_letter ok C13 (a := (k : Int)) (t := 6) (by omega) (by omega)) (oLet_6 hk2) hf (fun h14 C14 => ?_)
          refine Aok.cv (cl_letter ok C14 (a := (k : Int)) (t := 2) (by omega) (by omega)) (oLet_2 hk2) hf (fun h15 C15 => ?_)
          refine Aok.cr (cl_heading ok C15 (t := pv_ct st.1 k) (by omega)) (if_pos ⟨hct.1, hct.2.1⟩) hf ?_
          refine Aok.t rfl ?_
          refine Aok.cv (cl_letter ok C15 (a := (k : Int)) (t := 8) (by omega) (by omega)) (oLet_8 hk2) hf (fun h16 C16 => ?_)
          have last : ∀ (h17 : am_H), ClR h17 st → Aok (HP st d 21) (F_L_holds_202 X (iI (st.1.1 1)) (iI (pv_fr st.1 k + pv_rm st.1 k) + iI (1000 * pv_w st.1 k)) (iI k) h17 d) := by
            intro h17 C17
            rw [E_L_holds_202]
            refine Aok.cv (cl_letter ok C17 (a := (k : Int)) (t := 11) (by omega) (by omega)) (oLet_11 hk2) hf (fun h18 C18 => ?_)
            refine Aok.t (by rw [xI_le (by omega) (by omega) (by omega) (by omega)]; omega) ?_
            have := ih (k + 1) h18 (by omega) C18
            rw [if_pos (by omega)] at this
            rw [iS, iI_a, fr_step hv hk2]
            exact this
          by_cases z : st.1.2 6 k = 0
          · refine Aok.t (by rw [z]; rfl) ?_
            rw [inv_cnt I z] at e12
            refine Aok.cv (cl_letter ok C16 (a := (k : Int)) (t := 12) (by omega) (by omega)) e12 hf (fun h17 C17 => ?_)
            refine Aok.f (by decide) ?_
            exact last h17 C17
          · refine Aok.f (by rw [xI_0, xI_eq (by omega) (by omega) (by omega) (by omega)]; exact z) ?_
            exact last h16 C16
      by_cases z : pv_rm st.1 k < 100 * st.1.2 0 1
      · refine Aok.f (by rw [xI_le (by omega) (by omega) (by omega) (by omega)]; omega) ?_
        obtain rfl : y = 1 := hy.trans (if_pos z)
        exact key2 h4 C4
      · refine Aok.t (by rw [xI_le (by omega) (by omega) (by omega) (by omega)]; omega) ?_
        obtain rfl : y = 0 := hy.trans (if_neg z)
        exact key2 h4 C4
    by_cases z : pv_rm st.1 k < 100 * st.1.2 0 1
    · refine Aok.t (show _ from by rw [hbit]; exact z) ?_
      exact key 1 h2 (if_pos z).symm C2
    · refine Aok.f (show ¬ _ from by rw [hbit]; exact z) ?_
      exact key 0 h2 (if_neg z).symm C2
theorem holds_ok {h : am_H} (ok : Ok st) (C : ClR h st) (I : Inv st.1) (hf : dm_full d) (hb : d.2.1 + 21 ≤ dm_L) : Aok (HP st d 21) (F_L_holds X h d) := by
  unfold F_L_holds
  refine Aok.cv (cl_setting ok C (t := 1) (by omega)) rfl hf (fun h1 C1 => ?_)
  have := h13 (X := X) ok I hf hb (st.1.1 1 + 1) 0 h1 (Nat.zero_add _) C1
  rw [if_pos (Nat.zero_le _)] at this
  exact this
end HOL
