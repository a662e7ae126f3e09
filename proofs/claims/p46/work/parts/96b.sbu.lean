/-! StringBuilder: its cell, its row of bytes, the text in it -/
theorem sh0r (x : Int32) : x >>> (iI 0 &&& 31) = x := by
  rw [show (iI 0 &&& 31) = (nI 0 &&& 31) from by decide]
  exact b_ext (fun i hi => by rw [b_sshr 0 (by omega) x hi, Nat.zero_add, if_pos hi])
theorem sh0l (x : Int32) : x <<< (iI 0 &&& 31) = x := by
  rw [show (iI 0 &&& 31) = (nI 0 &&& 31) from by decide]
  exact b_ext (fun i hi => by rw [b_shl 0 (by omega) x hi, Nat.sub_zero, decide_eq_true (Nat.zero_le i), Bool.true_and])
theorem by_fit {x : Int32} (h : 0 ≤ x ∧ x ≤ 127) : fits .byte (.int x) = true := by
  have h1 : -128 ≤ x := Int32.le_trans (by decide) h.1
  simp only [fits, Bool.and_eq_true, decide_eq_true_eq]
  exact ⟨h1, h.2⟩
/-- all stays but object b and rows of bytes -/
def Bf (c b : Nat) (d d' : dm_D) : Prop := d.1 ≤ d'.1 ∧ d'.2.1 ≤ d.2.1 + c ∧ ∀ j, j < d.1 → j ≠ b → (∀ n f, d.2.2 j ≠ .inr (.inl (1, n, f))) → d'.2.2 j = d.2.2 j
/-- the builder b: its row r of so many bytes, the text T -/
def BC (d : dm_D) (b r cap : Nat) (f : Nat → Int32) (T : List Int) : Prop := dOb d b 14 [dm_o r, am_i (iI 0), am_i (iI 0), am_i (iI T.length)] ∧ dAr d r 1 cap f ∧ (T.length ≤ cap ∧ cap < 1000) ∧ (∀ i, i < cap → 0 ≤ f i ∧ f i ≤ 127) ∧ ∀ i, i < T.length → f i = iI (T.getD i 0)
def BuS (d : dm_D) (b : Nat) (T : List Int) : Prop := ∃ r cap f, BC d b r cap f T
section SBU
variable {X : dm_X} {d d1 d2 d' : dm_D} {b r cap c i j n m t : Nat} {f g : Nat → Int32} {T S : List Int} {x : Int32} {fs : List am_v}
theorem Bf.rf : Bf 0 b d d := ⟨Nat.le_refl _, Nat.le_refl _, fun _ _ _ _ => rfl⟩
theorem Bf.le {a c : Nat} (h : Bf a b d d') (hac : a ≤ c) : Bf c b d d' := ⟨h.1, by have := h.2.1; omega, h.2.2⟩
theorem Bf.tr {a c : Nat} (h : Bf a b d d1) (h2 : Bf c b d1 d2) : Bf (a + c) b d d2 := ⟨Nat.le_trans h.1 h2.1, by have := h.2.1; have := h2.2.1; omega, fun j hj hb hn => by
  have e := h.2.2 j hj hb hn
  exact (h2.2.2 j (Nat.lt_of_lt_of_le hj h.1) hb (fun n f => by rw [e]; exact hn n f)).trans e⟩
theorem Bf.ob (h : Bf c b d d') (o : dOb d i n fs) (hi : i ≠ b) : dOb d' i n fs := ⟨Nat.lt_of_lt_of_le o.1 h.1, (h.2.2 i o.1 hi (fun n f z => by rw [o.2] at z; cases z)).trans o.2⟩
theorem Bf.ar (h : Bf c b d d') (ob : dOb d b m fs) (o : dAr d i 0 n f) : dAr d' i 0 n f := ⟨Nat.lt_of_lt_of_le o.1 h.1, (h.2.2 i o.1 (ar_ne ob o) (fun n f z => by rw [o.2] at z; cases z)).trans o.2⟩
theorem Bf.rr {g : Nat → Option Nat} (h : Bf c b d d') (ob : dOb d b m fs) (o : dRr d i n g) : dRr d' i n g := ⟨Nat.lt_of_lt_of_le o.1 h.1, (h.2.2 i o.1 (li_ne ob o) (fun n f z => by rw [o.2] at z; cases z)).trans o.2⟩
theorem Bf.nw {x : dm_C} : Bf (n + 1) b d (dm_nw d n x) := ⟨Nat.le_succ _, Nat.le_refl _, fun i hi _ _ => nw_ne hi⟩
theorem Bf.sb {x : dm_C} : Bf 0 b d (dm_se d b x) := ⟨Nat.le_refl _, Nat.le_refl _, fun j _ hb _ => se_ne hb⟩
theorem Bf.sr {x : dm_C} (o : dAr d r 1 n f) : Bf 0 b d (dm_se d r x) := ⟨Nat.le_refl _, Nat.le_refl _, fun j _ _ hn => se_ne (fun z => hn n f (by rw [z]; exact o.2))⟩
theorem Bf.sw {x : dm_C} (h : Bf c b d d') (hi : d.1 ≤ i) : Bf c b d (dm_se d' i x) := ⟨h.1, h.2.1, fun j hj hb hn => (se_ne (by omega)).trans (h.2.2 j hj hb hn)⟩
theorem ln_at (o : dAr d i t n f) (ht : t < 5) : dm_ln X d (.inl 0, i) = some (iI n) := by rw [ln_ar o ht, ofN]
theorem cb_at {sp dp z : Nat} (o : dAr d i 1 n f) (o2 : dAr d j 1 m g) (hb : n < 100000 ∧ m < 100000) (h1 : sp + z ≤ n) (h2 : dp + z ≤ m) (h3 : ∀ k, k < z → 0 ≤ f (sp + k) ∧ f (sp + k) ≤ 127) : dm_cb d (.inl 0, i) (iI (sp : Int)) (.inl 0, j) (iI (dp : Int)) (iI (z : Int)) = some (dm_se d j (.inr (.inl (1, m, va_cpy f g sp dp z)))) := by
  have e : dm_by d (.inl 0, i) = some (n, f) := by
    unfold dm_by
    rw [dm_ar_of o.1 o.2]
    rfl
  unfold dm_cb
  rw [e, Option.bind_some, dm_ar_of o2.1 o2.2, Option.bind_some, iI_cl (by omega), iI_cl (by omega), iI_cl (by omega)]
  exact if_pos ⟨rfl, ⟨by rw [xI_0, xI_lt (by omega) (by omega) (by omega) (by omega)]; omega, by rw [xI_0, xI_lt (by omega) (by omega) (by omega) (by omega)]; omega, by rw [xI_0, xI_lt (by omega) (by omega) (by omega) (by omega)]; omega⟩, ⟨h1, h2⟩, fun k hk => by_fit (h3 k hk)⟩
theorem tx_ln : ∀ t, t < 22 → (am_tx t).length ≤ 9 := by decide +kernel
theorem tx_b0 : ∀ t, t < 22 → ∀ j, j < 10 → 0 ≤ (am_tx t).getD j 0 ∧ (am_tx t).getD j 0 ≤ 127 := by decide +kernel
theorem tx_b (ht : t < 22) (j : Nat) : 0 ≤ (am_tx t).getD j 0 ∧ (am_tx t).getD j 0 ≤ 127 := by
  by_cases h : j < 10
  · exact tx_b0 t ht j h
  · have := tx_ln t ht
    rw [List.getD_eq_getElem?_getD, List.getElem?_eq_none (by omega)]
    decide
def txI (t : Nat) : List Int := (am_tx t).map Int32.toInt
theorem txI_len : (txI t).length = (am_tx t).length := List.length_map _
theorem txI_at (j : Nat) : (am_tx t).getD j 0 = iI ((txI t).getD j 0) := by
  unfold txI
  rw [List.getD_eq_getElem?_getD, List.getD_eq_getElem?_getD, List.getElem?_map]
  cases (am_tx t)[j]? with
  | none => rfl
  | some y => exact iI_of y
theorem cb_tx {dp : Nat} (ht : t < 22) (o2 : dAr d j 1 m g) (hb : m < 100000) (h2 : dp + (am_tx t).length ≤ m) : dm_cb d (.inl 3, t) (iI 0) (.inl 0, j) (iI (dp : Int)) (iI (am_tx t).length) = some (dm_se d j (.inr (.inl (1, m, va_cpy (fun j => (am_tx t).getD j 0) g 0 dp (am_tx t).length)))) := by
  have hl := tx_ln t ht
  have e : dm_by d (.inl 3, t) = some ((am_tx t).length, fun j => (am_tx t).getD j 0) := by
    unfold dm_by
    show (none : Option (Nat × (Nat → Int32))).or (if t < 22 then _ else none) = _
    rw [if_pos ht]
    rfl
  unfold dm_cb
  rw [e, Option.bind_some, dm_ar_of o2.1 o2.2, Option.bind_some, iI_cl (by omega), iI_cl (by omega), show (iI 0).toNatClampNeg = 0 from rfl]
  exact if_pos ⟨rfl, ⟨by decide, by rw [xI_0, xI_lt (by omega) (by omega) (by omega) (by omega)]; omega, by rw [xI_0, xI_lt (by omega) (by omega) (by omega) (by omega)]; omega⟩, ⟨by show 0 + _ ≤ (am_tx t).length; omega, h2⟩, fun k hk => by_fit (tx_b ht (0 + k))⟩
theorem newLen {a x y : Int} (ha : 0 ≤ a ∧ a < 10000) (hx : -10000 ≤ x ∧ x < 10000) (hy : 0 < y ∧ y < 10000) : F_J8_newLength_cabcc (iI a) (iI x) (iI y) = some (iI (a + (if x < y then y else x))) := by
  have hm : (if x < y then y else x) < 10000 ∧ 0 < (if x < y then y else x) := by split <;> omega
  unfold F_J8_newLength_cabcc
  rw [max_J9 (by omega) (by omega) (by omega) (by omega), Option.bind_some, iI_a]
  generalize (if x < y then y else x) = z at hm ⊢
  rw [if_neg (by rw [xI_le (by omega) (by omega) (by omega) (by omega)]; omega), show (2147483639 : Int32) = iI 2147483639 from rfl, if_neg (by rw [xI_lt (by omega) (by omega) (by omega) (by omega)]; omega)]
theorem newCap (B : BC d b r cap f T) (hm : m ≤ 400) (hc : cap < m) : F_J5_newCapacity_0f7a4 X (.inl 0, b) (iI (m : Int)) d = some (iI ((cap : Int) + (if (m : Int) - cap < (cap : Int) + 2 then (cap : Int) + 2 else (m : Int) - cap))) := by
  obtain ⟨o, a, -⟩ := B
  unfold F_J5_newCapacity_0f7a4
  rw [fr_at o rfl, Option.bind_some, ln_at a (by omega), Option.bind_some, fi_at o rfl, Option.bind_some, Option.bind_some, sh0l, sh0l, iI_s, iI_a, newLen (by omega) (by omega) (by omega), Option.bind_some]
  have hk : (if (m : Int) - cap < (cap : Int) + 2 then (cap : Int) + 2 else (m : Int) - cap) < 1000 ∧ 0 < (if (m : Int) - cap < (cap : Int) + 2 then (cap : Int) + 2 else (m : Int) - cap) := by split <;> omega
  generalize (if (m : Int) - cap < (cap : Int) + 2 then (cap : Int) + 2 else (m : Int) - cap) = z at hk ⊢
  rw [show (2147483647 : Int32) = iI 2147483647 from rfl, if_neg (by rw [xI_eq (by omega) (by omega) (by omega) (by omega)]; omega), Option.bind_some, sh0r]
theorem copyOf_ok {K : Nat} (a : dAr d r 1 cap f) (hf : ∀ i, i < cap → 0 ≤ f i ∧ f i ≤ 127) (h1 : cap < K) (h2 : K < 1000) (hb : d.2.1 + K + 1 ≤ dm_L) : F_J7_copyOf_9075b X (.inl 0, r) (iI (K : Int)) d = some ((.inl 0, d.1), dm_nw d K (.inr (.inl (1, K, va_cpy f (fun _ => 0) 0 0 cap)))) := by
  unfold F_J7_copyOf_9075b
  rw [ln_at a (by omega), Option.bind_some, if_neg (by rw [xI_eq (by omega) (by omega) (by omega) (by omega)]; omega), na_at (by omega) (by omega) (by rw [Int.toNat_natCast]; exact hb), Option.bind_some, Int.toNat_natCast, ln_at (Ext.nw.ar a) (by omega), Option.bind_some, min_J9 (by omega) (by omega) (by omega) (by omega), if_pos (by omega), Option.bind_some]
  have h3 := cb_at (sp := 0) (dp := 0) (z := cap) (Ext.nw.ar a : dAr (dm_nw d K (.inr (.inl (1, K, fun _ => 0)))) r 1 cap f) dAr.nw (by omega) (by omega) (by omega) (fun k hk => by rw [Nat.zero_add]; exact hf k hk)
  rw [show ((0 : Nat) : Int) = 0 from rfl] at h3
  rw [h3, Option.bind_some, nw_se]
theorem ens_ok (B : BC d b r cap f T) (h1 : T.length ≤ m) (hm : m ≤ 400) (hb : d.2.1 + 803 ≤ dm_L) : Aok (fun d' => (∃ r' cap' f', BC d' b r' cap' f' T ∧ m ≤ cap') ∧ Bf 803 b d d') (F_J5_ensureCapacityInternal_d00df X (.inl 0, b) (iI (m : Int)) d) := by
  have B0 := B
  obtain ⟨o, a, ⟨l1, l2⟩, hf, ht⟩ := B
  unfold F_J5_ensureCapacityInternal_d00df
  refine Aok.b (fr_at o rfl) ?_
  refine Aok.b (ln_at a (by omega)) ?_
  refine Aok.b (fi_at o rfl) ?_
  by_cases c : m ≤ cap
  · refine Aok.t (by rw [sh0r, iI_s, xI_0, xI_le (by omega) (by omega) (by omega) (by omega)]; omega) ?_
    exact Aok.fin ⟨⟨r, cap, f, B0, c⟩, Bf.rf.le (Nat.zero_le _)⟩
  · refine Aok.f (by rw [sh0r, iI_s, xI_0, xI_le (by omega) (by omega) (by omega) (by omega)]; omega) ?_
    refine Aok.b (fr_at o rfl) ?_
    refine Aok.b (rk_at o) ?_
    refine Aok.b (newCap B0 hm (by omega)) ?_
    refine Aok.b (fi_at o rfl) ?_
    obtain ⟨K, hK⟩ : ∃ K : Nat, ((cap : Int) + (if (m : Int) - cap < (cap : Int) + 2 then (cap : Int) + 2 else (m : Int) - cap)) = K := ⟨((cap : Int) + (if (m : Int) - cap < (cap : Int) + 2 then (cap : Int) + 2 else (m : Int) - cap)).toNat, by split <;> omega⟩
    have hK2 : m ≤ K ∧ K ≤ 802 := by split at hK <;> omega
    rw [hK, sh0l]
    refine Aok.b (copyOf_ok a hf (by omega) (by omega) (by omega)) ?_
    have o1 : dOb (dm_nw d K (.inr (.inl (1, K, va_cpy f (fun _ => 0) 0 0 cap)))) b 14 [dm_o r, am_i (iI 0), am_i (iI 0), am_i (iI T.length)] := Ext.nw.ob o
    refine Aok.b (pu_at o1 (ble rfl)) ?_
    refine Aok.fin ⟨⟨d.1, K, va_cpy f (fun _ => 0) 0 0 cap, ⟨dOb.se o1.1, dAr.nw.sg (ar_ne o1 dAr.nw), ⟨by omega, by omega⟩, fun i hi => ?_, fun i hi => ?_⟩, hK2.1⟩, ?_⟩
    · unfold va_cpy
      by_cases z : i < cap
      · rw [if_pos ⟨Nat.zero_le _, by omega⟩, Nat.zero_add, Nat.sub_zero]
        exact hf i z
      · rw [if_neg (by omega)]
        exact (by decide : (0 : Int32) ≤ 0 ∧ (0 : Int32) ≤ 127)
    · unfold va_cpy
      rw [if_pos ⟨Nat.zero_le _, by omega⟩, Nat.zero_add, Nat.sub_zero]
      exact ht i hi
    · exact (Bf.nw.tr Bf.sb).le (by omega)
/-- behind an appending -/
theorem gD_app (i : Nat) : (T ++ S).getD i 0 = if i < T.length then T.getD i 0 else S.getD (i - T.length) 0 := by
  rw [List.getD_eq_getElem?_getD, List.getD_eq_getElem?_getD, List.getD_eq_getElem?_getD, List.getElem?_append]
  split <;> rfl
theorem BC.mk (o : dOb d b 14 [dm_o r, am_i (iI 0), am_i (iI 0), am_i (iI ((T.length : Int) + S.length))]) (a : dAr d r 1 cap g) (hl : T.length + S.length ≤ cap) (hc : cap < 1000) (hg : ∀ i, i < cap → 0 ≤ g i ∧ g i ≤ 127) (h1 : ∀ i, i < T.length → g i = iI (T.getD i 0)) (h2 : ∀ i, i < S.length → g (T.length + i) = iI (S.getD i 0)) : BC d b r cap g (T ++ S) := by
  refine ⟨?_, a, ⟨by rw [List.length_append]; exact hl, hc⟩, hg, fun i hi => ?_⟩
  · rw [List.length_append, Int.natCast_add]
    exact o
  · rw [List.length_append] at hi
    rw [gD_app]
    by_cases z : i < T.length
    · rw [if_pos z]
      exact h1 i z
    · rw [if_neg z]
      have := h2 (i - T.length) (by omega)
      rw [show T.length + (i - T.length) = i by omega] at this
      exact this
/-- a text constant's length -/
theorem rkT (ht : t < 22) : dm_rk d (.inl 2, t) 13 = some () := by
  unfold dm_rk
  show (none : Option Unit).or (if (13 : Nat) = 13 then (if t < 22 then some () else none) else none) = some ()
  rw [if_pos rfl, if_pos ht]
  rfl
theorem srT (ht : t < 22) : dm_sr d (.inl 2, t) 0 = some (.inl 3, t) := by
  unfold dm_sr
  show ((none : Option am_v).or (if t < 22 then some (.inr (.inl 3, t)) else none)).bind dm_vr = _
  rw [if_pos ht]
  rfl
theorem siT (ht : t < 22) : dm_si d (.inl 2, t) 1 = some (iI 0) := by
  unfold dm_si
  show ((none : Option am_v).or (if t < 22 then some (am_i 0) else none)).bind dm_vi = _
  rw [if_pos ht]
  rfl
theorem lnT (ht : t < 22) : dm_ln X d (.inl 3, t) = some (iI (am_tx t).length) := by
  unfold dm_ln
  show ((((none : Option Nat).or none).or (if ((.inl 3, t) : am_G × Nat) = (.inl 4, 3) then some X.1 else (if t < 22 then some (am_tx t).length else none))).map Int32.ofNat) = _
  rw [if_neg (fun z => by cases z), if_pos ht]
  show some (Int32.ofNat _) = _
  rw [ofN]
theorem coT (ht : t < 22) : F_J0_coder_7d493 X (.inl 2, t) d = some (iI 0) := by
  unfold F_J0_coder_7d493
  rw [if_neg (by decide), siT ht, Option.bind_some, if_pos (by decide)]
theorem lenT (ht : t < 22) : F_J0_length_8abf5 X (.inl 2, t) d = some (iI (am_tx t).length) := by
  unfold F_J0_length_8abf5
  rw [srT ht, Option.bind_some, lnT ht, Option.bind_some, rkT ht, Option.bind_some, coT ht, Option.bind_some, sh0r]
theorem apS (ht : t < 22) (B : BuS d b T) (hT : T.length ≤ 380) (hb : d.2.1 + 803 ≤ dm_L) : Aok (fun a => a.1 = (.inl 0, b) ∧ BuS a.2 b (T ++ txI t) ∧ Bf 803 b d a.2) (F_J4_append_15ec4 X (.inl 0, b) (.inl 2, t) d) := by
  obtain ⟨r, cap, f, B⟩ := B
  have hl := tx_ln t ht
  obtain ⟨d1, e1, ⟨r1, cap1, f1, B1, hc⟩, F1⟩ := ens_ok (X := X) (m := T.length + (am_tx t).length) B (by omega) (by omega) hb
  rw [Int.natCast_add] at e1
  have o := B.1
  obtain ⟨o1, a1, ⟨l1, l2⟩, hf, hT1⟩ := B1
  have a2 := dAr.se (t := 1) (n := cap1) (f := va_cpy (fun j => (am_tx t).getD j 0) f1 0 T.length (am_tx t).length) a1.1
  have o2 : dOb (dm_se d1 r1 (.inr (.inl (1, cap1, va_cpy (fun j => (am_tx t).getD j 0) f1 0 T.length (am_tx t).length)))) b 14 [dm_o r1, am_i (iI 0), am_i (iI 0), am_i (iI T.length)] := ⟨o1.1, (se_ne (Ne.symm (ar_ne o1 a1))).trans o1.2⟩
  have e2 : F_J5_putStringAt_47b60 X (.inl 0, b) (iI T.length) (.inl 2, t) d1 = some (dm_se d1 r1 (.inr (.inl (1, cap1, va_cpy (fun j => (am_tx t).getD j 0) f1 0 T.length (am_tx t).length)))) := by
    have e3 : F_J5_inflateIfNeededFor_a7421 X (.inl 0, b) (.inl 2, t) d1 = some () := by
      unfold F_J5_inflateIfNeededFor_a7421
      rw [if_neg (by decide), fi_at o1 rfl, Option.bind_some, rkT ht, Option.bind_some, coT ht, Option.bind_some, if_pos rfl]
    have e4 : F_J0_getBytes_840e7 X (.inl 2, t) (.inl 0, r1) (iI T.length) (iI 0) d1 = some (dm_se d1 r1 (.inr (.inl (1, cap1, va_cpy (fun j => (am_tx t).getD j 0) f1 0 T.length (am_tx t).length)))) := by
      unfold F_J0_getBytes_840e7
      rw [rkT ht, Option.bind_some, coT ht, Option.bind_some, if_pos rfl, srT ht, Option.bind_some, Option.bind_some, lnT ht, Option.bind_some, sh0l, cb_tx ht a1 (by omega) hc, Option.bind_some]
    unfold F_J5_putStringAt_47b60
    rw [rk_at o1, Option.bind_some, e3, Option.bind_some, fr_at o1 rfl, Option.bind_some, fi_at o1 rfl, Option.bind_some, rkT ht, Option.bind_some, e4, Option.bind_some]
  unfold F_J4_append_15ec4 F_J5_append_cf1ce
  refine Aok.b (rk_at o) ?_
  have key : Aok (fun a => BuS a.2 b (T ++ txI t) ∧ Bf 803 b d a.2) ((dm_rk d (.inl 2, t) 13).bind (fun u1 => (F_J0_length_8abf5 X (.inl 2, t) d).bind (fun a1 => (dm_fi d (.inl 0, b) 14 3).bind (fun a2 => (dm_rk d (.inl 0, b) 14).bind (fun u2 => (F_J5_ensureCapacityInternal_d00df X (.inl 0, b) (a2 + a1) d).bind (fun a3 => (dm_fi a3 (.inl 0, b) 14 3).bind (fun a4 => (dm_rk a3 (.inl 0, b) 14).bind (fun u3 => (F_J5_putStringAt_47b60 X (.inl 0, b) a4 (.inl 2, t) a3).bind (fun a5 => (dm_fi a5 (.inl 0, b) 14 3).bind (fun a6 => (dm_pu a5 (.inl 0, b) 14 3 (am_i (a6 + a1))).bind (fun d1 => some (((.inl 0, b) : am_G × Nat), d1)))))))))))) := by
    refine Aok.b (rkT ht) ?_
    refine Aok.b (lenT ht) ?_
    refine Aok.b (fi_at o rfl) ?_
    refine Aok.b (rk_at o) ?_
    rw [iI_a]
    refine Aok.b e1 ?_
    refine Aok.b (fi_at o1 rfl) ?_
    refine Aok.b (rk_at o1) ?_
    refine Aok.b e2 ?_
    refine Aok.b (fi_at o2 rfl) ?_
    rw [iI_a]
    refine Aok.b (pu_at o2 (ble rfl)) ?_
    refine Aok.fin ⟨⟨r1, cap1, va_cpy (fun j => (am_tx t).getD j 0) f1 0 T.length (am_tx t).length, BC.mk ?_ (a2.sg (ar_ne o2 a2)) ?_ l2 (fun i hi => ?_) (fun i hi => ?_) (fun i hi => ?_)⟩, ?_⟩
    · rw [txI_len]
      exact dOb.se o2.1
    · rw [txI_len]
      exact hc
    · unfold va_cpy
      split
      · exact tx_b ht _
      · exact hf i hi
    · unfold va_cpy
      rw [if_neg (by omega)]
      exact hT1 i hi
    · rw [txI_len] at hi
      unfold va_cpy
      rw [if_pos (by omega), Nat.zero_add, show T.length + i - T.length = i by omega]
      exact txI_at i
    · exact (F1.tr ((Bf.sr a1).tr Bf.sb)).le (by omega)
  obtain ⟨⟨q, d9⟩, e9, p1, p2⟩ := key
  refine Aok.b e9 ?_
  exact Aok.fin ⟨rfl, p1, p2⟩
end SBU
