/-! what is done with tokens: the program's -/
def nV (b : bfT) (s : Nat) : Nat → Int
  | 0 => 0
  | n + 1 => 10 * nV b s n + b.2 (s + n) - 48
def nvT (b : bfT) (T : Tk) : Int := nV b T.2.1 (T.2.2 - T.2.1)
abbrev Rs (X : Type) : Type := (Int × Int) ⊕ X
def sNum (b : bfT) (T : Tk) (lo hi : Int) : Rs (Int × Tk) := if T.1 = 2 then (if lo ≤ nvT b T ∧ nvT b T ≤ hi then .inr (nvT b T, tkA b T.2.2) else .inl (2, T.2.1)) else .inl (1, T.2.1)
def sSign (b : bfT) (T : Tk) (c : Int) : Rs Tk := if T.1 = 3 ∧ b.2 T.2.1 = c then .inr (tkA b T.2.2) else .inl (1, T.2.1)
abbrev txC (t i : Nat) : Int := ((am_tx t).getD i 0).toInt
def isW (b : bfT) (T : Tk) (t : Nat) : Bool := decide (T.1 = 1 ∧ T.2.2 = T.2.1 + (am_tx t).length ∧ ∀ i, i < (am_tx t).length → b.2 (T.2.1 + i) = txC t i)
def adW (b : bfT) (T : Tk) (t : Nat) : Tk := if isW b T t = true then tkA b T.2.2 else T
theorem tx_len : ∀ t, t < 9 → 1 ≤ (am_tx t).length ∧ (am_tx t).length ≤ 8 := by decide +kernel
theorem tx_chr : ∀ t, t < 9 → ∀ i, i < (am_tx t).length → 97 ≤ txC t i ∧ txC t i ≤ 122 := by decide +kernel
theorem nV_b {b : bfT} {s : Nat} : ∀ n, n ≤ 3 → (∀ i, s ≤ i → i < s + n → 48 ≤ b.2 i ∧ b.2 i ≤ 57) → 0 ≤ nV b s n ∧ nV b s n < 10 ^ n
  | 0, _, _ => ⟨Int.le_refl 0, by show (0 : Int) < 1; omega⟩
  | n + 1, hn, h => by
    have h1 := nV_b n (by omega) (fun i a c => h i a (by omega))
    have h2 := h (s + n) (by omega) (by omega)
    have : n = 0 ∨ n = 1 ∨ n = 2 := by omega
    show 0 ≤ 10 * nV b s n + b.2 (s + n) - 48 ∧ 10 * nV b s n + b.2 (s + n) - 48 < 10 ^ (n + 1)
    rcases this with rfl | rfl | rfl
    · have := h1.2; simp at this ⊢; rw [Nat.add_zero] at h2; omega
    · have := h1.2; simp at this ⊢; omega
    · have := h1.2; simp at this ⊢; omega
theorem nV_b3 {b : bfT} {s n : Nat} (hn : n ≤ 3) (h : ∀ i, s ≤ i → i < s + n → 48 ≤ b.2 i ∧ b.2 i ≤ 57) : 0 ≤ nV b s n ∧ nV b s n ≤ 999 := by
  have h1 := nV_b n hn h
  have : n = 0 ∨ n = 1 ∨ n = 2 ∨ n = 3 := by omega
  rcases this with rfl | rfl | rfl | rfl
  · have := h1.2; simp at this; omega
  · have := h1.2; simp at this; omega
  · have := h1.2; simp at this; omega
  · have := h1.2; simp at this; omega
theorem nvT_b {b : bfT} {T : Tk} (hT : tk_ok b T) (h : T.1 = 2) : 0 ≤ nvT b T ∧ nvT b T ≤ 999 := by
  have h2 := hT.2.2.2.2.2.2 h
  have h3 := hT.2.1
  exact nV_b3 (by omega) (fun i a c => h2.2 i a (by omega))
/-- an error is told, or all is well -/
def cK {X : Type} (o : Option (Int32 × am_H)) (r : Rs X) (Q : X → am_H → Prop) : Prop := match r with
  | .inl e => ∃ h', o = some (iI 0, h') ∧ h'.1 (.inl 1) 8 6 = iI e.1 ∧ h'.1 (.inl 1) 8 7 = iI e.2
  | .inr x => ∃ h', o = some (iI 1, h') ∧ Q x h'
def Rs.bd {X Y : Type} (r : Rs X) (s : X → Rs Y) : Rs Y := match r with
  | .inl e => .inl e
  | .inr x => s x
theorem cK.bind {X Y : Type} {o : Option (Int32 × am_H)} {r : Rs X} {Q : X → am_H → Prop} {s : X → Rs Y} {Q' : Y → am_H → Prop} {k : Int32 × am_H → Option (Int32 × am_H)} (C : cK o r Q) (h : ∀ x h', r = .inr x → Q x h' → cK (k (iI 1, h')) (s x) Q') : cK (o.bind (fun a => if a.1 = 0 then some (iI 0, a.2) else k a)) (r.bd s) Q' := by
  cases r with
  | inl e =>
    obtain ⟨h', e1, q⟩ := C
    exact ⟨h', by rw [e1]; rfl, q⟩
  | inr x =>
    obtain ⟨h', e1, q⟩ := C
    rw [e1]
    exact h x h' rfl q
theorem cK.mono {X : Type} {o : Option (Int32 × am_H)} {r : Rs X} {Q Q' : X → am_H → Prop} (C : cK o r Q) (h : ∀ x h', Q x h' → Q' x h') : cK o r Q' := by
  cases r with
  | inl e => exact C
  | inr x => obtain ⟨h', e1, q⟩ := C; exact ⟨h', e1, h _ _ q⟩
theorem cK.zz {X : Type} {o : Option (Int32 × am_H)} {r : Rs X} {Q : X → am_H → Prop} (C : cK o r Q) : cK (o.bind (fun a => if zb a.1 then some (a.1, a.2) else none)) r Q := by
  cases r with
  | inl e =>
    obtain ⟨h', e1, q⟩ := C
    exact ⟨h', by rw [e1, Option.bind_some]; exact if_pos (show zb (iI 0) from Or.inl rfl), q⟩
  | inr x =>
    obtain ⟨h', e1, q⟩ := C
    exact ⟨h', by rw [e1, Option.bind_some]; exact if_pos (show zb (iI 1) from Or.inr rfl), q⟩
section TKO
variable {h : am_H} {b : bfT} {T : Tk}
theorem k_fail (R : cl_tk h b T) {X : Type} {Q : X → am_H → Prop} {c : Int} : cK (f_X10_fail (iI c) h) (.inl (c, (T.2.1 : Int)) : Rs X) Q := by
  refine ⟨am_u (am_u h (.inl 1) 8 6 (iI c)) (.inl 1) 8 7 (iI T.2.1), ?_, ?_, ?_⟩
  · unfold f_X10_fail
    simp (disch := omega) only [xI_le, xI_lt, xI_eq, xI_0, xI_ib, if_pos, if_neg, if_true, if_false, xI_cl, Int.toNat_natCast, iI_m, iI_a, iI_s, iI_1, xI_n, Option.bind_some, Int.natCast_add, Int.natCast_one, xI_zb, if_bI0, if_bI1, xI_rn, xI_ti, am_lt, au_s, R.1.2.2.1]
  · rw [au_s, if_neg (by omega), au_s, if_pos rfl]
  · rw [au_s, if_pos rfl]
theorem k_failz (R : cl_tk h b T) {X : Type} {Q : X → am_H → Prop} {c : Int} : cK ((f_X10_fail (iI c) h).bind (fun a => if zb a.1 then some (a.1, a.2) else none)) (.inl (c, (T.2.1 : Int)) : Rs X) Q := (k_fail R).zz
theorem k_isSign (hb : bOk b) (hT : tk_ok b T) (R : cl_tk h b T) {c : Int} (hc : 0 ≤ c ∧ c ≤ 127) : f_X10_isSign (iI c) h = some (iI (bI (T.1 = 3 ∧ b.2 T.2.1 = c))) := by
  obtain ⟨t1, t2, t3, t4, t5, t6, t7⟩ := hT
  have hb1 := hb.1
  unfold f_X10_isSign
  by_cases d : T.1 = 3
  · have hs := hb.2 T.2.1
    have hs2 := sby_b hs
    by_cases e : b.2 T.2.1 = c
    · rw [show bI (T.1 = 3 ∧ b.2 T.2.1 = c) = 1 from if_pos ⟨d, e⟩]
      have e2 : sby (b.2 T.2.1) = c := by rw [sby_e (by omega)]; exact e
      simp (disch := omega) only [xI_le, xI_lt, xI_eq, xI_0, xI_ib, if_pos, if_neg, if_true, if_false, xI_cl, Int.toNat_natCast, iI_m, iI_a, iI_s, iI_1, xI_n, Option.bind_some, Int.natCast_add, Int.natCast_one, xI_zb, if_bI0, if_bI1, xI_rn, xI_ti, R.1.2.1, R.1.2.2.1, k_byteAt hb R.1.1 (i := T.2.1) (by omega), e2]
    · rw [show bI (T.1 = 3 ∧ b.2 T.2.1 = c) = 0 from if_neg (fun z => e z.2)]
      have e2 : ¬ sby (b.2 T.2.1) = c := fun z => e (by unfold sby at z; split at z <;> omega)
      simp (disch := omega) only [xI_le, xI_lt, xI_eq, xI_0, xI_ib, if_pos, if_neg, if_true, if_false, xI_cl, Int.toNat_natCast, iI_m, iI_a, iI_s, iI_1, xI_n, Option.bind_some, Int.natCast_add, Int.natCast_one, xI_zb, if_bI0, if_bI1, xI_rn, xI_ti, R.1.2.1, R.1.2.2.1, k_byteAt hb R.1.1 (i := T.2.1) (by omega), e2]
  · rw [show bI (T.1 = 3 ∧ b.2 T.2.1 = c) = 0 from if_neg (fun z => d z.1)]
    simp (disch := omega) only [xI_le, xI_lt, xI_eq, xI_0, xI_ib, if_pos, if_neg, if_true, if_false, xI_cl, Int.toNat_natCast, iI_m, iI_a, iI_s, iI_1, xI_n, Option.bind_some, Int.natCast_add, Int.natCast_one, xI_zb, if_bI0, if_bI1, xI_rn, xI_ti, R.1.2.1]
theorem k_takeSign (hb : bOk b) (hT : tk_ok b T) (R : cl_tk h b T) {c : Int} (hc : 0 ≤ c ∧ c ≤ 127) : cK (f_X10_takeSign (iI c) h) (sSign b T c) (fun T' h' => cl_tk h' b T') := by
  have e := k_isSign hb hT R hc
  unfold sSign f_X10_takeSign
  by_cases d : T.1 = 3 ∧ b.2 T.2.1 = c
  · rw [if_pos d]
    rw [show bI (T.1 = 3 ∧ b.2 T.2.1 = c) = 1 from if_pos d] at e
    obtain ⟨h', e1, t, -⟩ := k_advance hb hT R
    refine ⟨h', ?_, t⟩
    simp (disch := omega) only [xI_le, xI_lt, xI_eq, xI_0, xI_ib, if_pos, if_neg, if_true, if_false, xI_cl, Int.toNat_natCast, iI_m, iI_a, iI_s, iI_1, xI_n, Option.bind_some, Int.natCast_add, Int.natCast_one, xI_zb, if_bI0, if_bI1, xI_rn, xI_ti, e, e1]
  · rw [if_neg d]
    rw [show bI (T.1 = 3 ∧ b.2 T.2.1 = c) = 0 from if_neg d] at e
    rw [e, Option.bind_some, if_pos (by rfl)]
    exact k_failz R
theorem k_isWord (hb : bOk b) (hT : tk_ok b T) (R : cl_tk h b T) {t : Nat} (ht : t < 9) : f_X10_isWord t h = some (iI (bI (isW b T t = true))) := by
  obtain ⟨t1, t2, t3, t4, t5, t6, t7⟩ := hT
  have hb1 := hb.1
  have hl := tx_len t ht
  have hch := tx_chr t ht
  have eL : am_tlen t = iI (am_tx t).length := iI_nI _
  unfold f_X10_isWord isW
  by_cases d : T.1 = 1
  · by_cases g : T.2.2 = T.2.1 + (am_tx t).length
    · have hm := pv_fst_le (fun i => decide (b.2 (T.2.1 + i) ≠ txC t i)) (am_tx t).length 0
      have hat := pv_fst_at (fun i => decide (b.2 (T.2.1 + i) ≠ txC t i)) (am_tx t).length 0
      have hlt := pv_fst_lt (fun i => decide (b.2 (T.2.1 + i) ≠ txC t i)) (am_tx t).length 0
      have key : ∀ i, i < (am_tx t).length → f_X10_byteAt (iI T.2.1 + iI i) h = some (iI (sby (b.2 (T.2.1 + i)))) ∧ am_tchr t (iI i) = iI (txC t i) := fun i hi => by
        refine ⟨?_, ?_⟩
        · rw [iI_a, show (T.2.1 : Int) + i = ((T.2.1 + i : Nat) : Int) by omega]
          exact k_byteAt hb R.1.1 (by omega)
        · unfold am_tchr
          rw [xI_cl (by omega) (by omega), Int.toNat_natCast]
          exact iI_of _
      have s := ch_to (fun i : Nat => f_X10_isWord_28 t (iI i) h) (Nat.zero_le (pv_fst (fun i => decide (b.2 (T.2.1 + i) ≠ txC t i)) (am_tx t).length 0)) (fun i _ hi => by
        have h2 := hlt i (Nat.zero_le i) hi
        simp only [decide_eq_false_iff_not, Decidable.not_not] at h2
        obtain ⟨k1, k2⟩ := key i (by omega)
        have hc := hch i (by omega)
        have h3 := sby_e (b := b.2 (T.2.1 + i)) (by omega)
        rw [h3, h2] at k1
        show f_X10_isWord_28 _ _ _ = f_X10_isWord_28 _ _ _
        generalize txC t i = y at *
        rw [e_X10_isWord_28, R.1.2.2.1, k1, k2, eL]
        generalize (am_tx t).length = n at *
        simp (disch := omega) only [xI_le, xI_lt, xI_eq, xI_0, xI_ib, if_pos, if_neg, if_true, if_false, xI_cl, Int.toNat_natCast, iI_m, iI_a, iI_s, iI_1, xI_n, Option.bind_some, Int.natCast_add, Int.natCast_one, xI_zb, if_bI0, if_bI1, xI_rn, xI_ti])
      have s0 : f_X10_isWord_28 t (iI 0) h = _ := s
      generalize pv_fst (fun i => decide (b.2 (T.2.1 + i) ≠ txC t i)) (am_tx t).length 0 = m at *
      have fin : f_X10_isWord_28 t (iI m) h = some (iI (if m = (am_tx t).length then 1 else 0)) := by
        by_cases c : m = (am_tx t).length
        · rw [if_pos c, e_X10_isWord_28, eL, c]
          generalize (am_tx t).length = n at *
          simp (disch := omega) only [xI_le, xI_lt, xI_eq, xI_0, xI_ib, if_pos, if_neg, if_true, if_false, xI_cl, Int.toNat_natCast, iI_m, iI_a, iI_s, iI_1, xI_n, Option.bind_some, Int.natCast_add, Int.natCast_one, xI_zb, if_bI0, if_bI1, xI_rn, xI_ti]
        · have h2 := hat (by omega)
          simp only [decide_eq_true_eq] at h2
          obtain ⟨k1, k2⟩ := key m (by omega)
          have hc := hch m (by omega)
          have hs := sby_b (hb.2 (T.2.1 + m))
          have hb9 := hb.2 (T.2.1 + m)
          have h4 : ¬ txC t m = sby (b.2 (T.2.1 + m)) := fun z => h2 (by unfold sby at z; split at z <;> omega)
          rw [if_neg c, e_X10_isWord_28, R.1.2.2.1, k1, k2, eL]
          generalize txC t m = y at *
          generalize (am_tx t).length = n at *
          simp (disch := omega) only [xI_le, xI_lt, xI_eq, xI_0, xI_ib, if_pos, if_neg, if_true, if_false, xI_cl, Int.toNat_natCast, iI_m, iI_a, iI_s, iI_1, xI_n, Option.bind_some, Int.natCast_add, Int.natCast_one, xI_zb, if_bI0, if_bI1, xI_rn, xI_ti]
      have e9 : bI (decide (T.1 = 1 ∧ T.2.2 = T.2.1 + (am_tx t).length ∧ ∀ i, i < (am_tx t).length → b.2 (T.2.1 + i) = txC t i) = true) = if m = (am_tx t).length then 1 else 0 := by
        by_cases c : m = (am_tx t).length
        · rw [if_pos c]
          refine if_pos (decide_eq_true ⟨d, g, fun i hi => ?_⟩)
          have h2 := hlt i (Nat.zero_le i) (by omega)
          simpa only [decide_eq_false_iff_not, Decidable.not_not] using h2
        · rw [if_neg c]
          refine if_neg (fun z => ?_)
          have h2 := hat (by omega)
          simp only [decide_eq_true_eq] at h2
          exact h2 ((of_decide_eq_true z).2.2 m (by omega))
      rw [e9, R.1.2.1, R.1.2.2.1, R.1.2.2.2, eL, d]
      generalize (if m = (am_tx t).length then (1 : Int) else 0) = y at *
      have gl : (T.2.2 : Int) = T.2.1 + (am_tx t).length := by omega
      rw [if_pos (by rfl), if_pos (by rw [iI_s, gl]; congr 1; omega), s0]
      exact fin
    · rw [show bI (decide (T.1 = 1 ∧ T.2.2 = T.2.1 + (am_tx t).length ∧ ∀ i, i < (am_tx t).length → b.2 (T.2.1 + i) = txC t i) = true) = 0 from if_neg (fun z => g (of_decide_eq_true z).2.1)]
      generalize (am_tx t).length = n at *
      simp (disch := omega) only [xI_le, xI_lt, xI_eq, xI_0, xI_ib, if_pos, if_neg, if_true, if_false, xI_cl, Int.toNat_natCast, iI_m, iI_a, iI_s, iI_1, xI_n, Option.bind_some, Int.natCast_add, Int.natCast_one, xI_zb, if_bI0, if_bI1, xI_rn, xI_ti, R.1.2.1, R.1.2.2.1, R.1.2.2.2, eL]
  · rw [show bI (decide (T.1 = 1 ∧ T.2.2 = T.2.1 + (am_tx t).length ∧ ∀ i, i < (am_tx t).length → b.2 (T.2.1 + i) = txC t i) = true) = 0 from if_neg (fun z => d (of_decide_eq_true z).1)]
    simp (disch := omega) only [xI_le, xI_lt, xI_eq, xI_0, xI_ib, if_pos, if_neg, if_true, if_false, xI_cl, Int.toNat_natCast, iI_m, iI_a, iI_s, iI_1, xI_n, Option.bind_some, Int.natCast_add, Int.natCast_one, xI_zb, if_bI0, if_bI1, xI_rn, xI_ti, R.1.2.1]
theorem k_isAnyWord (hT : tk_ok b T) (R : cl_tk h b T) : f_X10_isAnyWord h = some (iI (bI (T.1 = 1))) := by
  have t1 := hT.1
  unfold f_X10_isAnyWord bI
  simp (disch := omega) only [xI_le, xI_lt, xI_eq, xI_0, xI_ib, if_pos, if_neg, if_true, if_false, xI_cl, Int.toNat_natCast, iI_m, iI_a, iI_s, iI_1, xI_n, Option.bind_some, Int.natCast_add, Int.natCast_one, xI_zb, if_bI0, if_bI1, xI_rn, xI_ti, R.1.2.1]
  (repeat' split) <;> first | rfl | (exfalso; omega)
theorem k_isAtEnd (hT : tk_ok b T) (R : cl_tk h b T) : f_X10_isAtEnd h = some (iI (bI (T.1 = 0))) := by
  have t1 := hT.1
  unfold f_X10_isAtEnd bI
  simp (disch := omega) only [xI_le, xI_lt, xI_eq, xI_0, xI_ib, if_pos, if_neg, if_true, if_false, xI_cl, Int.toNat_natCast, iI_m, iI_a, iI_s, iI_1, xI_n, Option.bind_some, Int.natCast_add, Int.natCast_one, xI_zb, if_bI0, if_bI1, xI_rn, xI_ti, R.1.2.1]
  (repeat' split) <;> first | rfl | (exfalso; omega)
theorem k_takeIfWord (hb : bOk b) (hT : tk_ok b T) (R : cl_tk h b T) {t : Nat} (ht : t < 9) : ∃ h', f_X10_takeIfWord t h = some (iI (bI (isW b T t = true)), h') ∧ cl_tk h' b (adW b T t) ∧ h'.1 (.inl 1) 8 5 = h.1 (.inl 1) 8 5 := by
  have e := k_isWord hb hT R ht
  unfold adW f_X10_takeIfWord
  by_cases d : isW b T t = true
  · rw [if_pos d]
    rw [show bI (isW b T t = true) = 1 from if_pos d] at e ⊢
    obtain ⟨h', e1, q⟩ := k_advance hb hT R
    refine ⟨h', ?_, q⟩
    rw [e, Option.bind_some, if_neg (by decide), e1, Option.bind_some]
    exact if_pos (Or.inr rfl)
  · rw [if_neg d]
    rw [show bI (isW b T t = true) = 0 from if_neg d] at e ⊢
    refine ⟨h, ?_, R, rfl⟩
    rw [e, Option.bind_some, if_pos (by rfl)]
    exact if_pos (Or.inl rfl)
theorem adW_ok (hT : tk_ok b T) {t : Nat} : tk_ok b (adW b T t) ∧ T.2.1 ≤ (adW b T t).2.1 := by
  unfold adW
  split
  · have := tkA_ok hT.2.2.1
    exact ⟨this.1, Nat.le_trans hT.2.1 this.2⟩
  · exact ⟨hT, Nat.le_refl _⟩
theorem k_takeNumber (hb : bOk b) (hT : tk_ok b T) (R : cl_tk h b T) {lo hi : Int} (hlo : 0 ≤ lo ∧ lo ≤ 999) (hhi : 0 ≤ hi ∧ hi ≤ 999) : cK (f_X10_takeNumber (iI lo) (iI hi) h) (sNum b T lo hi) (fun x h' => cl_tk h' b x.2 ∧ h'.1 (.inl 1) 8 5 = iI x.1) := by
  have hT' := hT
  obtain ⟨t1, t2, t3, t4, t5, t6, t7⟩ := hT
  have hb1 := hb.1
  unfold sNum f_X10_takeNumber
  by_cases d : T.1 = 2
  · rw [if_pos d, R.1.2.1, d, if_pos (by rfl), R.1.2.2.1]
    have h7 := t7 d
    have hnb := nvT_b hT' d
    have s := ch_to (fun i : Nat => f_X10_takeNumber_22 (iI lo) (iI hi) (iI (nV b T.2.1 i)) (iI ((T.2.1 : Int) + i)) h) (Nat.zero_le (T.2.2 - T.2.1)) (fun i _ hi2 => by
      have hn := nV_b3 (b := b) (s := T.2.1) (n := i) (by omega) (fun j a c => h7.2 j a (by omega))
      have hc := h7.2 (T.2.1 + i) (by omega) (by omega)
      have hs := sby_e (b := b.2 (T.2.1 + i)) (by omega)
      have eb := k_byteAt hb R.1.1 (i := T.2.1 + i) (by omega)
      rw [hs, Int.natCast_add] at eb
      have en : nV b T.2.1 (i + 1) = 10 * nV b T.2.1 i + b.2 (T.2.1 + i) - 48 := rfl
      show f_X10_takeNumber_22 _ _ _ _ _ = f_X10_takeNumber_22 _ _ _ _ _
      rw [e_X10_takeNumber_22, en]
      simp (disch := omega) only [xI_le, xI_lt, xI_eq, xI_0, xI_ib, if_pos, if_neg, if_true, if_false, xI_cl, Int.toNat_natCast, iI_m, iI_a, iI_s, iI_1, xI_n, Option.bind_some, Int.natCast_add, Int.natCast_one, xI_zb, if_bI0, if_bI1, xI_rn, xI_ti, R.1.2.2.2, eb, show (T.2.1 : Int) + ((i : Int) + 1) = (T.2.1 : Int) + i + 1 from by omega])
    have s0 : f_X10_takeNumber_22 (iI lo) (iI hi) (iI 0) (iI T.2.1) h = f_X10_takeNumber_22 (iI lo) (iI hi) (iI (nvT b T)) (iI T.2.2) h := by
      refine Eq.trans (congrArg (fun z => f_X10_takeNumber_22 (iI lo) (iI hi) (iI 0) (iI z) h) (show (T.2.1 : Int) = (T.2.1 : Int) + ((0 : Nat) : Int) by omega)) (Eq.trans s ?_)
      show f_X10_takeNumber_22 _ _ (iI (nvT b T)) (iI ((T.2.1 : Int) + ((T.2.2 - T.2.1 : Nat) : Int))) _ = _
      rw [show (T.2.1 : Int) + ((T.2.2 - T.2.1 : Nat) : Int) = T.2.2 by omega]
    have ew := k_isWithin (n := nvT b T) (a := lo) (b := hi) (by omega) (by omega) (by omega)
    rw [s0, e_X10_takeNumber_22]
    by_cases g : lo ≤ nvT b T ∧ nvT b T ≤ hi
    · rw [if_pos g]
      rw [show bI (lo ≤ nvT b T ∧ nvT b T ≤ hi) = 1 from if_pos g] at ew
      have R1 : cl_tk (am_u h (.inl 1) 8 5 (iI (nvT b T))) b T := by
        refine ⟨⟨⟨?_, fun i hi => ?_⟩, ?_, ?_, ?_⟩, ?_, ?_⟩
        · rw [au_s, if_neg (by omega)]; exact R.1.1.1
        · rw [am_u_row (by simp)]; exact R.1.1.2 i hi
        · rw [au_s, if_neg (by omega)]; exact R.1.2.1
        · rw [au_s, if_neg (by omega)]; exact R.1.2.2.1
        · rw [au_s, if_neg (by omega)]; exact R.1.2.2.2
        · rw [au_s, if_neg (by omega)]; exact R.2.1
        · rw [au_s, if_neg (by omega)]; exact R.2.2
      obtain ⟨h', e1, t, k5⟩ := k_advance hb hT' R1
      refine ⟨h', ?_, t, by rw [k5, au_s, if_pos rfl]⟩
      simp (disch := omega) only [xI_le, xI_lt, xI_eq, xI_0, xI_ib, if_pos, if_neg, if_true, if_false, xI_cl, Int.toNat_natCast, iI_m, iI_a, iI_s, iI_1, xI_n, Option.bind_some, Int.natCast_add, Int.natCast_one, xI_zb, if_bI0, if_bI1, xI_rn, xI_ti, R.1.2.2.2, ew, am_lt, e1]
    · rw [if_neg g]
      rw [show bI (lo ≤ nvT b T ∧ nvT b T ≤ hi) = 0 from if_neg g] at ew
      rw [R.1.2.2.2, if_pos (by rw [xI_le (by omega) (by omega) (by omega) (by omega)]; exact Int.le_refl _), ew, Option.bind_some, if_pos (by rfl)]
      exact k_failz R
  · rw [if_neg d, R.1.2.1, if_neg (by rw [xI_eq (by omega) (by omega) (by omega) (by omega)]; omega)]
    exact k_failz R
end TKO
