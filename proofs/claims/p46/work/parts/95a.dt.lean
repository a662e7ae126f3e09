/-! THE PURE PART: what the functions of the second machine answer. Tools: cells read and written -/
abbrev dOb (d : dm_D) (i c : Nat) (fs : List am_v) : Prop := i < d.1 ∧ d.2.2 i = .inl (c, fs)
abbrev dAr (d : dm_D) (i t n : Nat) (f : Nat → Int32) : Prop := i < d.1 ∧ d.2.2 i = .inr (.inl (t, n, f))
abbrev dRr (d : dm_D) (i n : Nat) (f : Nat → Option Nat) : Prop := i < d.1 ∧ d.2.2 i = .inr (.inr (.inl (n, f)))
section DT
variable {X : dm_X} {d d1 d2 d' : dm_D} {i j k c t n m : Nat} {fs : List am_v} {f : Nat → Int32} {g : Nat → Option Nat} {x y : Int32} {q : am_G × Nat} {w : am_v}
theorem fld_at (o : dOb d i c fs) (e : fs[k]? = some w) : dm_fl d (.inl 0, i) c k = some w := by
  unfold dm_fl
  rw [dm_ob_of o.1 o.2, Option.bind_some]
  show (if c = c then fs[k]? else none) = _
  rw [if_pos rfl, e]
theorem fi_at (o : dOb d i c fs) (e : fs[k]? = some (am_i x)) : dm_fi d (.inl 0, i) c k = some x := by
  unfold dm_fi
  rw [fld_at o e]
  rfl
theorem fr_at (o : dOb d i c fs) (e : fs[k]? = some (.inr q)) : dm_fr d (.inl 0, i) c k = some q := by
  unfold dm_fr
  rw [fld_at o e]
  rfl
theorem rk_at (o : dOb d i c fs) : dm_rk d (.inl 0, i) c = some () := by
  unfold dm_rk
  rw [dm_ob_of o.1 o.2, Option.bind_some]
  show (if c = c then some () else none).or _ = _
  rw [if_pos rfl]
  rfl
theorem pu_at (o : dOb d i c fs) (hk : k < fs.length) : dm_pu d (.inl 0, i) c k w = some (dm_se d i (.inl (c, fs.set k w))) := by
  unfold dm_pu
  rw [dm_ob_of o.1 o.2, Option.bind_some]
  exact if_pos ⟨rfl, hk⟩
theorem ck_at (o : dAr d i 0 n f) : dm_ck d (.inl 0, i) = some () := by
  unfold dm_ck
  rw [dm_ar_of o.1 o.2, Option.bind_some]
  exact if_pos rfl
theorem ai_at (o : dAr d i t n f) (hx : ib x n) : dm_ai d (.inl 0, i) t x = some (f x.toNatClampNeg) := by
  unfold dm_ai
  rw [dm_ar_of o.1 o.2, Option.bind_some]
  exact if_pos ⟨rfl, hx⟩
theorem li_at (o : dAr d i 0 n f) (hx : ib x n) : dm_li X d (.inl 0, i) x = some (f x.toNatClampNeg) := by
  unfold dm_li
  rw [ai_at o hx]
  rfl
theorem lb_at (o : dAr d i 1 n f) (hx : ib x n) : dm_lb d (.inl 0, i) x = some (f x.toNatClampNeg) := by
  unfold dm_lb
  rw [ai_at o hx]
  rfl
theorem lr_at (o : dRr d i n g) (hx : ib x n) (e : g x.toNatClampNeg = some k) : dm_lr d (.inl 0, i) x = some (.inl 0, k) := by
  unfold dm_lr
  rw [dm_rr_of o.1 o.2, Option.bind_some]
  show (if ib x n then (g x.toNatClampNeg).map _ else none) = _
  rw [if_pos hx, e]
  rfl
theorem wi_at (o : dAr d i t n f) (hx : ib x n) : dm_wi d (.inl 0, i) t x y = some (dm_se d i (.inr (.inl (t, n, upd f x.toNatClampNeg y)))) := by
  unfold dm_wi
  rw [dm_ar_of o.1 o.2, Option.bind_some]
  exact if_pos ⟨rfl, hx⟩
theorem wr_at {v : Option Nat} (o : dRr d i n g) (hx : ib x n) : dm_wr d (.inl 0, i) x v = some (dm_se d i (.inr (.inr (.inl (n, va_up g x.toNatClampNeg v))))) := by
  unfold dm_wr
  rw [dm_rr_of o.1 o.2, Option.bind_some]
  exact if_pos hx
theorem as_at (o : dRr d i n g) (p : dAr d j 0 m f) (hx : ib x n) : dm_as d (.inl 0, i) x (.inl 0, j) = some (dm_se d i (.inr (.inr (.inl (n, va_up g x.toNatClampNeg (some j)))))) := by
  unfold dm_as
  rw [dm_ar_of p.1 p.2, Option.bind_some]
  show (if (0 : Nat) = 0 then dm_wr d (.inl 0, i) x (some j) else none) = _
  rw [if_pos rfl, wr_at o hx]
theorem ob_no {o : Nat × Nat × Nat × (Nat → Int32)} (h : d.2.2 i = .inr (.inr (.inl (n, g)))) : dm_ar d (.inl 0, i) ≠ some o := fun e => by
  obtain ⟨a, b, c9, f9⟩ := o
  obtain ⟨e1, -, e2⟩ := dm_ar_some e
  cases e1
  rw [h] at e2
  cases e2
theorem ln_ar (o : dAr d i t n f) (ht : t < 5) : dm_ln X d (.inl 0, i) = some (Int32.ofNat n) := by
  unfold dm_ln
  rw [dm_ar_of o.1 o.2, Option.bind_some]
  show (((if t < 5 then some n else none).or _).or _).map _ = _
  rw [if_pos ht]
  rfl
theorem ln_rr (o : dRr d i n g) : dm_ln X d (.inl 0, i) = some (Int32.ofNat n) := by
  unfold dm_ln
  have h1 : dm_ar d (.inl 0, i) = none := by
    cases h : dm_ar d (.inl 0, i) with
    | none => rfl
    | some a => exact absurd h (ob_no o.2)
  rw [h1, dm_rr_of o.1 o.2]
  rfl
theorem ln_z : dm_ln X d (.inl 4, 0) = some (iI 0) := rfl
theorem ofN (n : Nat) : Int32.ofNat n = iI n := iI_nI n
theorem mk_at {c : dm_C} (h : d.2.1 + n + 1 ≤ dm_L) : dm_mk d n c = some (dm_nw d n c) := if_pos h
theorem no_at (h : d.2.1 + (dm_f0 c).length + 1 ≤ dm_L) : dm_no d c = some (dm_nw d (dm_f0 c).length (.inl (c, dm_f0 c))) := mk_at h
theorem na_at {z : Int} (h0 : 0 ≤ z) (h9 : z < 2147483648) (h : d.2.1 + z.toNat + 1 ≤ dm_L) : dm_na d t (iI z) = some (dm_nw d z.toNat (.inr (.inl (t, z.toNat, fun _ => 0)))) := by
  unfold dm_na
  rw [iI_toInt (by omega) h9, iI_clz h0 h9, if_pos h0]
  exact mk_at h
theorem nr_at {z : Int} (h0 : 0 ≤ z) (h9 : z < 2147483648) (h : d.2.1 + z.toNat + 1 ≤ dm_L) : dm_nr d (iI z) = some (dm_nw d z.toNat (.inr (.inr (.inl (z.toNat, fun _ => none))))) := by
  unfold dm_nr
  rw [iI_toInt (by omega) h9, iI_clz h0 h9, if_pos h0]
  exact mk_at h
/-- at another place a write changes nothing -/
theorem se_at {x : dm_C} (j : Nat) : (dm_se d i x).2.2 j = if j = i then x else d.2.2 j := rfl
theorem se_eq {x : dm_C} : (dm_se d i x).2.2 i = x := if_pos rfl
theorem se_ne {x : dm_C} (h : j ≠ i) : (dm_se d i x).2.2 j = d.2.2 j := if_neg h
theorem nw_eq {x : dm_C} : (dm_nw d n x).2.2 d.1 = x := if_pos rfl
theorem nw_ne {x : dm_C} (h : j < d.1) : (dm_nw d n x).2.2 j = d.2.2 j := if_neg (by omega)
theorem se_se {x y : dm_C} : dm_se (dm_se d i x) i y = dm_se d i y := by
  unfold dm_se
  congr 2
  funext j
  show (if j = i then y else if j = i then x else d.2.2 j) = _
  by_cases h : j = i
  · rw [if_pos h, if_pos h]
  · rw [if_neg h, if_neg h, if_neg h]
theorem dOb.se (h : i < d.1) : dOb (dm_se d i (.inl (c, fs))) i c fs := ⟨h, se_eq⟩
theorem dAr.se (h : i < d.1) : dAr (dm_se d i (.inr (.inl (t, n, f)))) i t n f := ⟨h, se_eq⟩
theorem dRr.se (h : i < d.1) : dRr (dm_se d i (.inr (.inr (.inl (n, g))))) i n g := ⟨h, se_eq⟩
/-- what was there stays; what it cost -/
def Ext (c : Nat) (d d' : dm_D) : Prop := d.1 ≤ d'.1 ∧ d'.2.1 ≤ d.2.1 + c ∧ ∀ i, i < d.1 → d'.2.2 i = d.2.2 i
theorem Ext.rf : Ext 0 d d := ⟨Nat.le_refl _, Nat.le_refl _, fun _ _ => rfl⟩
theorem Ext.tr {a b : Nat} (h : Ext a d d1) (h2 : Ext b d1 d2) : Ext (a + b) d d2 := ⟨Nat.le_trans h.1 h2.1, by have := h.2.1; have := h2.2.1; omega, fun i hi => (h2.2.2 i (Nat.lt_of_lt_of_le hi h.1)).trans (h.2.2 i hi)⟩
theorem Ext.le {a b : Nat} (h : Ext a d d1) (hab : a ≤ b) : Ext b d d1 := ⟨h.1, by have := h.2.1; omega, h.2.2⟩
theorem Ext.nw {x : dm_C} : Ext (n + 1) d (dm_nw d n x) := ⟨Nat.le_succ _, Nat.le_refl _, fun i hi => nw_ne hi⟩
theorem Ext.ob (h : Ext m d d') (o : dOb d i c fs) : dOb d' i c fs := ⟨Nat.lt_of_lt_of_le o.1 h.1, (h.2.2 i o.1).trans o.2⟩
theorem Ext.ar (h : Ext m d d') (o : dAr d i t n f) : dAr d' i t n f := ⟨Nat.lt_of_lt_of_le o.1 h.1, (h.2.2 i o.1).trans o.2⟩
theorem Ext.rr (h : Ext m d d') (o : dRr d i n g) : dRr d' i n g := ⟨Nat.lt_of_lt_of_le o.1 h.1, (h.2.2 i o.1).trans o.2⟩
/-- a write of what is newer than d -/
theorem Ext.se {x : dm_C} (h : Ext m d d') (hi : d.1 ≤ i) : Ext m d (dm_se d' i x) := ⟨h.1, h.2.1, fun j hj => (se_ne (by omega)).trans (h.2.2 j hj)⟩
theorem Ext.full (h : Ext m d d') (hf : dm_full d) : dm_full d' := fun g o ok => by
  obtain ⟨i, hi, e⟩ := hf g o ok
  exact ⟨i, Nat.lt_of_lt_of_le hi h.1, (h.2.2 i hi).trans e⟩
end DT
/-! lists, and going along them -/
/-- a list: its changes' count, its row, its number, its elements' places -/
def LiE (d : dm_D) (li : Nat) (mc : Int32) (e : am_G × Nat) (n : Nat) (f : Nat → Nat) : Prop := dOb d li 16 [am_i mc, .inr e, am_i (iI n)] ∧ n < 1000000 ∧ ((∃ r cap g, e = (.inl 0, r) ∧ dRr d r cap g ∧ n ≤ cap ∧ cap < 2147483648 ∧ ∀ i, i < n → g i = some (f i)) ∨ (e = (.inl 4, 0) ∧ n = 0))
/-- an iterator at its k-th -/
def ItS (d : dm_D) (p li k : Nat) (mc : Int32) : Prop := ∃ lr, dOb d p 15 [am_i (iI k), am_i lr, am_i mc, dm_o li]
section LIS
variable {X : dm_X} {d d1 d2 d' : dm_D} {li p n k c m : Nat} {mc : Int32} {e : am_G × Nat} {f : Nat → Nat}
theorem LiE.ext (h : Ext c d d') (L : LiE d li mc e n f) : LiE d' li mc e n f := ⟨h.ob L.1, L.2.1, L.2.2.imp (fun ⟨r, cap, g, h1, h2, h3⟩ => ⟨r, cap, g, h1, h.rr h2, h3⟩) id⟩
theorem size_at (L : LiE d li mc e n f) : F_Jx4a65c_size_8abf5 X (.inl 0, li) d = some (iI n) := by
  unfold F_Jx4a65c_size_8abf5
  rw [fi_at L.1 rfl]
  rfl
theorem empty_at (L : LiE d li mc e n f) : F_Jx4a65c_isEmpty_aae02 X (.inl 0, li) d = some (iI (bI (n = 0))) := by
  have := L.2.1
  unfold F_Jx4a65c_isEmpty_aae02
  rw [fi_at L.1 rfl, Option.bind_some, xI_0]
  by_cases h : n = 0
  · rw [if_pos (by rw [h]; rfl)]
    unfold bI
    rw [if_pos h]
  · rw [if_neg (by rw [xI_eq (by omega) (by omega) (by omega) (by omega)]; omega)]
    unfold bI
    rw [if_neg h]
theorem get_at (L : LiE d li mc e n f) (hk : k < n) : F_Jx4a65c_get_915e3 X (.inl 0, li) (iI k) d = some (.inl 0, f k) := by
  have hn := L.2.1
  rcases L.2.2 with ⟨r, cap, g, rfl, h2, h3, h4, h5⟩ | ⟨-, h⟩
  · unfold F_Jx4a65c_get_915e3 F_J15_checkIndex_7cf53 F_Jx4a65c_elementData_915e3
    rw [fi_at L.1 rfl, Option.bind_some, xI_0, if_pos ⟨by rw [xI_lt (by omega) (by omega) (by omega) (by omega)]; omega, by rw [xI_lt (by omega) (by omega) (by omega) (by omega)]; omega⟩, Option.bind_some, rk_at L.1, Option.bind_some, fr_at L.1 rfl, Option.bind_some, lr_at h2 (by rw [xI_ib (by omega) (by omega) (by omega)]; trivial) (by rw [iI_cl (by omega)]; exact h5 k hk)]
    rfl
  · omega
theorem nw_se {x y : dm_C} : dm_se (dm_nw d n x) d.1 y = dm_nw d n y := by
  unfold dm_se dm_nw
  congr 2
  funext j
  show (if j = d.1 then y else if j = d.1 then x else d.2.2 j) = _
  by_cases h : j = d.1
  · rw [if_pos h, if_pos h]
  · rw [if_neg h, if_neg h, if_neg h]
theorem dOb.nw {c : Nat} {fs : List am_v} : dOb (dm_nw d n (.inl (c, fs))) d.1 c fs := ⟨Nat.lt_succ_self _, nw_eq⟩
theorem dAr.nw {t k : Nat} {f : Nat → Int32} : dAr (dm_nw d n (.inr (.inl (t, k, f)))) d.1 t k f := ⟨Nat.lt_succ_self _, nw_eq⟩
theorem dRr.nw {k : Nat} {f : Nat → Option Nat} : dRr (dm_nw d n (.inr (.inr (.inl (k, f))))) d.1 k f := ⟨Nat.lt_succ_self _, nw_eq⟩
theorem it_new (L : LiE d li mc e n f) (hb : d.2.1 + 5 ≤ dm_L) : F_Jx4a65c_iterator_32c93 X (.inl 0, li) d = some ((.inl 0, d.1), dm_nw d 4 (.inl (15, [am_i (iI 0), am_i (iI (-1)), am_i mc, dm_o li]))) := by
  unfold F_Jx4a65c_iterator_32c93 F_Jx35411_init_45d68
  rw [no_at (c := 15) hb, Option.bind_some, show (dm_f0 15).length = 4 from rfl]
  have o0 : dOb (dm_nw d 4 (.inl (15, dm_f0 15))) d.1 15 (dm_f0 15) := dOb.nw
  rw [pu_at o0 (ble rfl), nw_se, Option.bind_some, pu_at dOb.nw (ble rfl), nw_se, Option.bind_some, fr_at dOb.nw rfl, Option.bind_some, fi_at (Ext.nw.ob L.1) rfl, Option.bind_some, pu_at dOb.nw (ble rfl), nw_se]
  rfl
theorem it_st : ItS (dm_nw d 4 (.inl (15, [am_i (iI 0), am_i (iI (-1)), am_i mc, dm_o li]))) d.1 li 0 mc := ⟨_, dOb.nw⟩
theorem it_has (L : LiE d li mc e n f) (I : ItS d p li k mc) (hk : k ≤ n) : F_Jx35411_hasNext_aae02 X (.inl 0, p) d = some (iI (bI (k < n))) := by
  obtain ⟨lr, o⟩ := I
  have := L.2.1
  unfold F_Jx35411_hasNext_aae02
  rw [fi_at o rfl, Option.bind_some, fr_at o rfl, Option.bind_some, fi_at L.1 rfl, Option.bind_some]
  unfold bI
  by_cases h : k = n
  · rw [if_pos (by rw [h]), if_neg (by omega)]
  · rw [if_neg (by rw [xI_eq (by omega) (by omega) (by omega) (by omega)]; omega), if_pos (by omega)]
theorem it_next (L : LiE d li mc e n f) (I : ItS d p li k mc) (hk : k < n) : ∃ d', F_Jx35411_next_0502b X (.inl 0, p) d = some ((.inl 0, f k), d') ∧ ItS d' p li (k + 1) mc ∧ (d'.1 = d.1 ∧ d'.2.1 = d.2.1 ∧ ∀ j, j ≠ p → d'.2.2 j = d.2.2 j) := by
  obtain ⟨lr, o⟩ := I
  have hn := L.2.1
  rcases L.2.2 with ⟨r, cap, g, rfl, h2, h3, h4, h5⟩ | ⟨-, h⟩
  · have hp : p ≠ r := fun z => by
      have a := o.2
      have b := h2.2
      rw [z, b] at a
      cases a
    refine ⟨dm_se (dm_se d p (.inl (15, [am_i (iI (k + 1)), am_i lr, am_i mc, dm_o li]))) p (.inl (15, [am_i (iI (k + 1)), am_i (iI k), am_i mc, dm_o li])), ?_, ⟨iI k, show dOb _ _ _ [am_i (iI ((k : Int) + 1)), am_i (iI k), am_i mc, dm_o li] from dOb.se (d := dm_se d p _) o.1⟩, rfl, rfl, fun j hj => (se_ne hj).trans (se_ne hj)⟩
    unfold F_Jx35411_next_0502b F_Jx35411_checkForComodification_da8c8
    have h6 : dRr (dm_se (dm_se d p (.inl (15, [am_i (iI (k + 1)), am_i lr, am_i mc, dm_o li]))) p (.inl (15, [am_i (iI (k + 1)), am_i (iI k), am_i mc, dm_o li]))) r cap g := ⟨h2.1, (se_ne (Ne.symm hp)).trans ((se_ne (Ne.symm hp)).trans h2.2)⟩
    rw [rk_at o, Option.bind_some, fr_at o rfl, Option.bind_some, fi_at L.1 rfl, Option.bind_some, fi_at o rfl, Option.bind_some, if_pos rfl, Option.bind_some, fi_at o rfl, Option.bind_some, Option.bind_some, fi_at L.1 rfl, Option.bind_some, if_pos (by rw [xI_lt (by omega) (by omega) (by omega) (by omega)]; omega), Option.bind_some, fr_at L.1 rfl, Option.bind_some, ln_rr h2, Option.bind_some, ofN, if_pos (by rw [xI_lt (by omega) (by omega) (by omega) (by omega)]; omega), pu_at o (ble rfl), Option.bind_some, iI_a, pu_at (dOb.se o.1) (ble rfl), Option.bind_some]
    show (dm_lr (dm_se (dm_se d p (.inl (15, [am_i (iI (k + 1)), am_i lr, am_i mc, dm_o li]))) p (.inl (15, [am_i (iI (k + 1)), am_i (iI k), am_i mc, dm_o li]))) (.inl 0, r) (iI k)).bind _ = _
    rw [lr_at h6 (by rw [xI_ib (by omega) (by omega) (by omega)]; trivial) (by rw [iI_cl (by omega)]; exact h5 k hk)]
    rfl
  · omega
/-- what a step of an iterator leaves -/
theorem Ext.it (E : Ext c d d1) (hp : d.1 ≤ p) (h : d2.1 = d1.1 ∧ d2.2.1 = d1.2.1 ∧ ∀ j, j ≠ p → d2.2.2 j = d1.2.2 j) : Ext c d d2 := ⟨by rw [h.1]; exact E.1, by rw [h.2.1]; exact E.2.1, fun i hi => (h.2.2 i (by omega)).trans (E.2.2 i hi)⟩
theorem ItS.ext {k : Nat} (E : Ext c d d1) (I : ItS d p li k mc) : ItS d1 p li k mc := by
  obtain ⟨lr, o⟩ := I
  exact ⟨lr, E.ob o⟩
end LIS
