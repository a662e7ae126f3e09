/-! numbers, letters appended; the text of a builder -/
def dg (n : Nat) : List Int := if n < 10 then [48 + (n : Int)] else if n < 100 then [48 + ((n / 10 : Nat) : Int), 48 + ((n % 10 : Nat) : Int)] else [48 + ((n / 100 : Nat) : Int), 48 + ((n / 10 % 10 : Nat) : Int), 48 + ((n % 10 : Nat) : Int)]
theorem dg_1 {n : Nat} (h : n < 10) : dg n = ([48 + (n : Int)] : List Int) := if_pos h
theorem dg_2 {n : Nat} (h : 10 ≤ n) (h2 : n < 100) : dg n = ([48 + ((n / 10 : Nat) : Int), 48 + ((n % 10 : Nat) : Int)] : List Int) := by
  unfold dg
  rw [if_neg (by omega), if_pos h2]
theorem dg_3 {n : Nat} (h : 100 ≤ n) : dg n = ([48 + ((n / 100 : Nat) : Int), 48 + ((n / 10 % 10 : Nat) : Int), 48 + ((n % 10 : Nat) : Int)] : List Int) := by
  unfold dg
  rw [if_neg (by omega), if_neg (by omega)]
theorem dg_len {n : Nat} : 1 ≤ (dg n).length ∧ (dg n).length ≤ 3 := by
  unfold dg
  split
  · exact ⟨by show 1 ≤ 1; omega, by show 1 ≤ 3; omega⟩
  · split
    · exact ⟨by show 1 ≤ 2; omega, by show 2 ≤ 3; omega⟩
    · exact ⟨by show 1 ≤ 3; omega, by show 3 ≤ 3; omega⟩
theorem d1_at : ∀ j, j < 100 → vp_nar .byte (dm_d1 j) = iI (48 + ((j % 10 : Nat) : Int)) := by decide +kernel
theorem d10_at : ∀ j, j < 100 → vp_nar .byte (dm_d10 j) = iI (48 + ((j / 10 : Nat) : Int)) := by decide +kernel
section SBN
variable {X : dm_X} {d d1 d2 d' : dm_D} {b r cap c i j n m t p : Nat} {f g : Nat → Int32} {T S : List Int} {x : Int32} {fs : List am_v}
theorem lb1 (h : n < 100) : dm_lb d (.inl 4, 1) (iI (n : Int)) = some (dm_d1 n) := by
  unfold dm_lb
  show (none : Option Int32).or (if ib (iI (n : Int)) 100 then some (dm_d1 (iI (n : Int)).toNatClampNeg) else none) = _
  rw [if_pos (by rw [xI_ib (by omega) (by omega) (by omega)]; trivial), iI_cl (by omega)]
  rfl
theorem lb10 (h : n < 100) : dm_lb d (.inl 4, 2) (iI (n : Int)) = some (dm_d10 n) := by
  unfold dm_lb
  show (none : Option Int32).or (if ib (iI (n : Int)) 100 then some (dm_d10 (iI (n : Int)).toNatClampNeg) else none) = _
  rw [if_pos (by rw [xI_ib (by omega) (by omega) (by omega)]; trivial), iI_cl (by omega)]
  rfl
theorem wb_at {y : Int32} (o : dAr d i 1 n f) (hk : p < n) (hn : n < 2147483648) : dm_wi d (.inl 0, i) 1 (iI (p : Int)) y = some (dm_se d i (.inr (.inl (1, n, upd f p y)))) := by
  rw [wi_at o (ib1 hk hn), iI_cl (by omega)]
theorem ss_ok (h : n < 1000) : F_J6_stringSize_0f7a4 (iI (n : Int)) = some (iI (dg n).length) := by
  unfold F_J6_stringSize_0f7a4
  rw [xI_0, if_neg (by rw [xI_lt (by omega) (by omega) (by omega) (by omega)]; omega), E_J6_stringSize_0f7a4_16, if_neg (by decide), iI_n]
  by_cases h1 : n < 10
  · rw [if_neg (by rw [xI_le (by omega) (by omega) (by omega) (by omega)]; omega), dg_1 h1]
    rfl
  · rw [if_pos (by rw [xI_le (by omega) (by omega) (by omega) (by omega)]; omega), E_J6_stringSize_0f7a4_16, if_neg (by decide), iI_m]
    by_cases h2 : n < 100
    · rw [if_neg (by rw [xI_le (by omega) (by omega) (by omega) (by omega)]; omega), dg_2 (by omega) h2]
      rfl
    · rw [if_pos (by rw [xI_le (by omega) (by omega) (by omega) (by omega)]; omega), E_J6_stringSize_0f7a4_16, if_neg (by decide), iI_m, if_neg (by rw [xI_le (by omega) (by omega) (by omega) (by omega)]; omega), dg_3 (by omega)]
      rfl
theorem up_s {f : Nat → Int32} {p : Nat} {y : Int32} : upd f p y p = y := if_pos rfl
theorem up_n {f : Nat → Int32} {p j : Nat} {y : Int32} (h : j ≠ p) : upd f p y j = f j := if_neg h
theorem g104 {x : Int} : F_J6_getChars_ba4f3_104 X (.inl 0, r) (iI x) (iI 0) d = some (iI x, d) := by
  rw [E_J6_getChars_ba4f3_104, if_pos (by decide)]
/-- one digit -/
theorem gc1 (a : dAr d r 1 cap f) (h : m < 10) (hp : p + 1 ≤ cap) (hc : cap < 1000) : F_J6_getChars_ba4f3_22 X (iI (-(m : Int))) (.inl 0, r) (iI ((p : Int) + 1)) (iI 0) d = some (iI p, dm_se d r (.inr (.inl (1, cap, upd f p (iI (48 + (m : Int))))))) := by
  rw [E_J6_getChars_ba4f3_22, if_pos (by rw [xI_lt (by omega) (by omega) (by omega) (by omega)]; omega), iI_n, Int.neg_neg, lb1 (by omega), Option.bind_some, d1_at m (by omega), iI_a, show (p : Int) + 1 + -1 = p by omega, wb_at a (by omega) (by omega), Option.bind_some, if_pos (by rw [xI_le (by omega) (by omega) (by omega) (by omega)]; omega), g104, Nat.mod_eq_of_lt h]
theorem gc_ok (a : dAr d r 1 cap f) (h : n < 1000) (hp : p + (dg n).length ≤ cap) (hc : cap < 1000) : ∃ g, F_J6_getChars_ba4f3 X (iI (n : Int)) (iI ((p : Int) + (dg n).length)) (.inl 0, r) d = some (iI p, dm_se d r (.inr (.inl (1, cap, g)))) ∧ (∀ i, i < (dg n).length → g (p + i) = iI ((dg n).getD i 0)) ∧ ∀ j, j < p ∨ p + (dg n).length ≤ j → g j = f j := by
  have e0 : F_J6_getChars_ba4f3 X (iI (n : Int)) (iI ((p : Int) + (dg n).length)) (.inl 0, r) d = F_J6_getChars_ba4f3_22 X (iI (-(n : Int))) (.inl 0, r) (iI ((p : Int) + (dg n).length)) (iI 0) d := by
    unfold F_J6_getChars_ba4f3
    rw [xI_0, if_pos (by rw [xI_le (by omega) (by omega) (by omega) (by omega)]; omega), if_pos rfl, iI_n]
  rw [e0]
  by_cases h1 : n < 10
  · rw [dg_1 h1] at hp ⊢
    refine ⟨upd f p (iI (48 + (n : Int))), gc1 a h1 hp hc, fun i hi => ?_, fun j hj => up_n ?_⟩
    · obtain rfl : i = 0 := by
        have hi : i < 1 := hi
        omega
      exact up_s
    · have hj : j < p ∨ p + 1 ≤ j := hj
      omega
  · by_cases h2 : n < 100
    · rw [dg_2 (by omega) h2] at hp ⊢
      have hp : p + 2 ≤ cap := hp
      have a1 := dAr.se (t := 1) (n := cap) (f := upd f (p + 1) (iI (48 + ((n % 10 : Nat) : Int)))) a.1
      refine ⟨upd (upd f (p + 1) (iI (48 + ((n % 10 : Nat) : Int)))) p (iI (48 + ((n / 10 : Nat) : Int))), ?_, fun i hi => ?_, fun j hj => ?_⟩
      · show F_J6_getChars_ba4f3_22 X (iI (-(n : Int))) (.inl 0, r) (iI ((p : Int) + 2)) (iI 0) d = _
        rw [E_J6_getChars_ba4f3_22, if_pos (by rw [xI_lt (by omega) (by omega) (by omega) (by omega)]; omega), iI_n, Int.neg_neg, lb1 h2, Option.bind_some, d1_at n h2, iI_a, show (p : Int) + 2 + -1 = ((p + 1 : Nat) : Int) by omega, wb_at a (by omega) (by omega), Option.bind_some, if_neg (by rw [xI_le (by omega) (by omega) (by omega) (by omega)]; omega), lb10 h2, Option.bind_some, d10_at n h2, iI_a, show ((p + 1 : Nat) : Int) + -1 = p by omega, wb_at a1 (by omega) (by omega), Option.bind_some, g104, se_se]
      · have hi : i < 2 := hi
        rcases (show i = 0 ∨ i = 1 by omega) with rfl | rfl
        · exact up_s
        · exact (up_n (by omega)).trans up_s
      · have hj : j < p ∨ p + 2 ≤ j := hj
        rw [up_n (by omega), up_n (by omega)]
    · rw [dg_3 (by omega)] at hp ⊢
      have hp : p + 3 ≤ cap := hp
      have a1 := dAr.se (t := 1) (n := cap) (f := upd f (p + 2) (iI (48 + ((n % 100 % 10 : Nat) : Int)))) a.1
      have a2 := dAr.se (t := 1) (n := cap) (f := upd (upd f (p + 2) (iI (48 + ((n % 100 % 10 : Nat) : Int)))) (p + 1) (iI (48 + ((n % 100 / 10 : Nat) : Int)))) a1.1
      refine ⟨upd (upd (upd f (p + 2) (iI (48 + ((n % 100 % 10 : Nat) : Int)))) (p + 1) (iI (48 + ((n % 100 / 10 : Nat) : Int)))) p (iI (48 + ((n / 100 : Nat) : Int))), ?_, fun i hi => ?_, fun j hj => ?_⟩
      · show F_J6_getChars_ba4f3_22 X (iI (-(n : Int))) (.inl 0, r) (iI ((p : Int) + 3)) (iI 0) d = _
        have e1 : iI (-(n : Int)) / iI 100 = iI (-((n / 100 : Nat) : Int)) := by
          rw [iI_d (by omega) (by omega) (by omega) (by omega) (by omega), Int.neg_tdiv, Int.tdiv_eq_ediv_of_nonneg (by omega)]
          rfl
        have e2 : iI (-(n : Int)) / iI 100 * iI 100 - iI (-(n : Int)) = iI ((n % 100 : Nat) : Int) := by
          rw [e1, iI_m, iI_s]
          congr 1
          omega
        have h3 := gc1 (X := X) a2 (m := n / 100) (p := p) (by omega) (by omega) hc
        rw [E_J6_getChars_ba4f3_22, if_neg (by rw [xI_lt (by omega) (by omega) (by omega) (by omega)]; omega), if_neg (by decide), e2, lb1 (by omega), Option.bind_some, d1_at (n % 100) (by omega), iI_a, show (p : Int) + 3 + -1 = ((p + 2 : Nat) : Int) by omega, wb_at a (by omega) (by omega), Option.bind_some, lb10 (by omega), Option.bind_some, d10_at (n % 100) (by omega), iI_a, show ((p + 2 : Nat) : Int) + -1 = ((p + 1 : Nat) : Int) by omega, wb_at a1 (by omega) (by omega), Option.bind_some, e1, show ((p + 1 : Nat) : Int) = (p : Int) + 1 from rfl, h3, se_se, se_se]
      · have hi : i < 3 := hi
        rcases (show i = 0 ∨ i = 1 ∨ i = 2 by omega) with rfl | rfl | rfl
        · exact up_s
        · rw [up_n (by omega), up_s]
          show iI (48 + ((n % 100 / 10 : Nat) : Int)) = iI (48 + ((n / 10 % 10 : Nat) : Int))
          congr 2
          omega
        · rw [up_n (by omega), up_n (by omega), up_s]
          show iI (48 + ((n % 100 % 10 : Nat) : Int)) = iI (48 + ((n % 10 : Nat) : Int))
          congr 2
          omega
      · have hj : j < p ∨ p + 3 ≤ j := hj
        rw [up_n (by omega), up_n (by omega), up_n (by omega)]
theorem lat1 {y : am_v} (o : dOb d b 14 [dm_o r, am_i (iI 0), am_i (iI 0), y]) : F_J5_isLatin1_aae02 X (.inl 0, b) d = some (iI 1) := by
  unfold F_J5_isLatin1_aae02
  rw [if_neg (by decide), fi_at o rfl, Option.bind_some, if_pos (by decide)]
theorem dg_b {n i : Nat} (h : n < 1000) (hi : i < (dg n).length) : 0 ≤ iI ((dg n).getD i 0) ∧ iI ((dg n).getD i 0) ≤ 127 := by
  have key : ∀ z : Nat, z < 10 → 0 ≤ iI (48 + (z : Int)) ∧ iI (48 + (z : Int)) ≤ 127 := by decide +kernel
  by_cases h1 : n < 10
  · rw [dg_1 h1] at hi ⊢
    have hi : i < 1 := hi
    obtain rfl : i = 0 := by omega
    exact key n h1
  · by_cases h2 : n < 100
    · rw [dg_2 (by omega) h2] at hi ⊢
      have hi : i < 2 := hi
      rcases (show i = 0 ∨ i = 1 by omega) with rfl | rfl
      · exact key (n / 10) (by omega)
      · exact key (n % 10) (by omega)
    · rw [dg_3 (by omega)] at hi ⊢
      have hi : i < 3 := hi
      rcases (show i = 0 ∨ i = 1 ∨ i = 2 by omega) with rfl | rfl | rfl
      · exact key (n / 100) (by omega)
      · exact key (n / 10 % 10) (by omega)
      · exact key (n % 10) (by omega)
theorem apI (hn : n < 1000) (B : BuS d b T) (hT : T.length ≤ 380) (hb : d.2.1 + 803 ≤ dm_L) : Aok (fun a => a.1 = (.inl 0, b) ∧ BuS a.2 b (T ++ dg n) ∧ Bf 803 b d a.2) (F_J4_append_bf812 X (.inl 0, b) (iI (n : Int)) d) := by
  obtain ⟨r, cap, f, B⟩ := B
  have hl := dg_len (n := n)
  obtain ⟨d1, e1, ⟨r1, cap1, f1, B1, hc⟩, F1⟩ := ens_ok (X := X) (m := T.length + (dg n).length) B (by omega) (by omega) hb
  rw [Int.natCast_add] at e1
  have o := B.1
  obtain ⟨o1, a1, ⟨l1, l2⟩, hf, hT1⟩ := B1
  obtain ⟨g, e2, g1, g2⟩ := gc_ok (X := X) (n := n) (p := T.length) a1 hn hc l2
  have a2 := dAr.se (t := 1) (n := cap1) (f := g) a1.1
  have o2 : dOb (dm_se d1 r1 (.inr (.inl (1, cap1, g)))) b 14 [dm_o r1, am_i (iI 0), am_i (iI 0), am_i (iI T.length)] := ⟨o1.1, (se_ne (Ne.symm (ar_ne o1 a1))).trans o1.2⟩
  have key : Aok (fun a => BuS a.2 b (T ++ dg n) ∧ Bf 803 b d a.2) (F_J5_append_c97b9 X (.inl 0, b) (iI (n : Int)) d) := by
    unfold F_J5_append_c97b9
    refine Aok.b (fi_at o rfl) ?_
    refine Aok.b (ss_ok hn) ?_
    refine Aok.b (rk_at o) ?_
    rw [iI_a]
    refine Aok.b e1 ?_
    refine Aok.b (rk_at o1) ?_
    refine Aok.b (lat1 o1) ?_
    refine Aok.f (by decide) ?_
    refine Aok.b (fr_at o1 rfl) ?_
    refine Aok.b e2 ?_
    refine Aok.b (pu_at o2 (ble rfl)) ?_
    refine Aok.fin ⟨⟨r1, cap1, g, BC.mk (dOb.se o2.1) (a2.sg (ar_ne o2 a2)) hc l2 (fun i hi => ?_) (fun i hi => ?_) (fun i hi => g1 i hi)⟩, (F1.tr ((Bf.sr a1).tr Bf.sb)).le (by omega)⟩
    · by_cases z : i < T.length ∨ T.length + (dg n).length ≤ i
      · rw [g2 i z]
        exact hf i hi
      · have h3 := g1 (i - T.length) (by omega)
        rw [show T.length + (i - T.length) = i by omega] at h3
        rw [h3]
        exact dg_b hn (by omega)
    · rw [g2 i (Or.inl hi)]
      exact hT1 i hi
  obtain ⟨⟨q, d9⟩, e9, p1, p2⟩ := key
  unfold F_J4_append_bf812
  refine Aok.b (rk_at o) ?_
  refine Aok.b e9 ?_
  exact Aok.fin ⟨rfl, p1, p2⟩
theorem ch_nar : ∀ z, z < 128 → vp_nar .byte ((iI ((z : Nat) : Int)).toInt8.toInt32) = iI (z : Int) := by decide +kernel
theorem ch_b : ∀ z, z < 128 → 0 ≤ iI ((z : Nat) : Int) ∧ iI ((z : Nat) : Int) ≤ 127 := by decide +kernel
theorem apC {z : Nat} (hz : z < 128) (B : BuS d b T) (hT : T.length ≤ 380) (hb : d.2.1 + 803 ≤ dm_L) : Aok (fun a => a.1 = (.inl 0, b) ∧ BuS a.2 b (T ++ [(z : Int)]) ∧ Bf 803 b d a.2) (F_J4_append_cf468 X (.inl 0, b) (iI (z : Int)) d) := by
  obtain ⟨r, cap, f, B⟩ := B
  obtain ⟨d1, e1, ⟨r1, cap1, f1, B1, hc⟩, F1⟩ := ens_ok (X := X) (m := T.length + 1) B (by omega) (by omega) hb
  rw [Int.natCast_add] at e1
  have o := B.1
  obtain ⟨o1, a1, ⟨l1, l2⟩, hf, hT1⟩ := B1
  have o2 : dOb (dm_se d1 b (.inl (14, [dm_o r1, am_i (iI 0), am_i (iI 0), am_i (iI ((T.length : Int) + 1))]))) b 14 [dm_o r1, am_i (iI 0), am_i (iI 0), am_i (iI ((T.length : Int) + 1))] := dOb.se o1.1
  have a2 : dAr (dm_se d1 b (.inl (14, [dm_o r1, am_i (iI 0), am_i (iI 0), am_i (iI ((T.length : Int) + 1))]))) r1 1 cap1 f1 := a1.sg (ar_ne o1 a1)
  have a3 := dAr.se (t := 1) (n := cap1) (f := upd f1 T.length (iI (z : Int))) a2.1
  have key : Aok (fun a => BuS a.2 b (T ++ [(z : Int)]) ∧ Bf 803 b d a.2) (F_J5_append_3fe6f X (.inl 0, b) (iI (z : Int)) d) := by
    unfold F_J5_append_3fe6f
    refine Aok.b (fi_at o rfl) ?_
    refine Aok.b (rk_at o) ?_
    rw [iI_a]
    refine Aok.b e1 ?_
    refine Aok.b (rk_at o1) ?_
    refine Aok.b (lat1 o1) ?_
    refine Aok.f (by decide) ?_
    refine Aok.b (a := iI 1) (by unfold F_J1_canEncode_fc78d; rw [if_neg (by rw [xI_lt (by omega) (by omega) (by omega) (by omega)]; omega)]) ?_
    refine Aok.f (by decide) ?_
    refine Aok.b (fr_at o1 rfl) ?_
    refine Aok.b (fi_at o1 rfl) ?_
    rw [iI_a]
    refine Aok.b (pu_at o1 (ble rfl)) ?_
    rw [ch_nar z hz]
    refine Aok.b (wb_at a2 (by omega) (by omega)) ?_
    refine Aok.fin ⟨⟨r1, cap1, upd f1 T.length (iI (z : Int)), BC.mk ⟨o2.1, (se_ne (Ne.symm (ar_ne o2 a2))).trans o2.2⟩ a3 hc l2 (fun i hi => ?_) (fun i hi => ?_) (fun i hi => ?_)⟩, (F1.tr (Bf.sb.tr (Bf.sr a2))).le (by omega)⟩
    · by_cases e : i = T.length
      · rw [e, up_s]
        exact ch_b z hz
      · rw [up_n e]
        exact hf i hi
    · rw [up_n (by omega)]
      exact hT1 i hi
    · have hi : i < 1 := hi
      obtain rfl : i = 0 := by omega
      exact up_s
  obtain ⟨⟨q, d9⟩, e9, p1, p2⟩ := key
  unfold F_J4_append_cf468
  refine Aok.b (rk_at o) ?_
  refine Aok.b e9 ?_
  exact Aok.fin ⟨rfl, p1, p2⟩
/-- a text of the machine's -/
def SR (d : dm_D) (s : Nat) (T : List Int) : Prop := ∃ r g fs, dOb d s 13 (dm_o r :: am_i (iI 0) :: fs) ∧ dAr d r 1 T.length g ∧ ∀ i, i < T.length → g i = iI (T.getD i 0)
theorem cpr_ok (a : dAr d r 1 cap f) (hf : ∀ i, i < cap → 0 ≤ f i ∧ f i ≤ 127) (h1 : n ≤ cap) (h2 : cap < 1000) (hb : d.2.1 + n + 1 ≤ dm_L) : ∃ g, F_J7_copyOfRange_39247 X (.inl 0, r) (iI 0) (iI (n : Int)) d = some ((.inl 0, d.1), dm_nw d n (.inr (.inl (1, n, g)))) ∧ ∀ i, i < n → g i = f i := by
  unfold F_J7_copyOfRange_39247
  rw [if_pos (by decide), ln_at a (by omega), Option.bind_some]
  by_cases e : n = cap
  · subst e
    refine ⟨f, ?_, fun _ _ => rfl⟩
    rw [if_pos rfl, dm_cn_of a.1 a.2 (fun j hj => ⟨Int32.le_trans (by decide) (hf j hj).1, (hf j hj).2⟩), mk_at hb, Option.bind_some]
  · refine ⟨va_cpy f (fun _ => 0) 0 0 n, ?_, fun i hi => ?_⟩
    · rw [if_neg (by rw [xI_eq (by omega) (by omega) (by omega) (by omega)]; omega)]
      unfold F_J7_copyOfRangeByte_39247 F_J7_checkLength_df160
      rw [if_pos (by rw [xI_le (by omega) (by omega) (by omega) (by omega)]; omega), Option.bind_some, iI_s, Int.sub_zero, na_at (by omega) (by omega) (by rw [Int.toNat_natCast]; exact hb), Option.bind_some, Int.toNat_natCast, ln_at (Ext.nw.ar a) (by omega), Option.bind_some, iI_s, Int.sub_zero, min_J9 (by omega) (by omega) (by omega) (by omega), if_neg (by omega), Option.bind_some]
      have h3 := cb_at (sp := 0) (dp := 0) (z := n) (Ext.nw.ar a : dAr (dm_nw d n (.inr (.inl (1, n, fun _ => 0)))) r 1 cap f) dAr.nw (by omega) (by omega) (by omega) (fun k hk => by rw [Nat.zero_add]; exact hf k (by omega))
      rw [show ((0 : Nat) : Int) = 0 from rfl] at h3
      rw [h3, Option.bind_some, nw_se, Option.bind_some]
    · unfold va_cpy
      rw [if_pos ⟨Nat.zero_le _, by omega⟩, Nat.zero_add, Nat.sub_zero]
theorem toS (B : BuS d b T) (hb : d.2.1 + 1006 ≤ dm_L) : Aok (fun a => a.1 = (.inl 0, d.1) ∧ SR a.2 d.1 T ∧ Ext 1006 d a.2) (F_J4_toString_0e30d X (.inl 0, b) d) := by
  obtain ⟨r, cap, f, o, a, ⟨l1, l2⟩, hf, hT⟩ := B
  unfold F_J4_toString_0e30d
  refine Aok.b (no_at (c := 13) (by show d.2.1 + 4 + 1 ≤ _; omega)) ?_
  have E1 : Ext 5 d (dm_nw d 4 (.inl (13, dm_f0 13))) := Ext.nw
  have o1 : dOb (dm_nw d 4 (.inl (13, dm_f0 13))) d.1 13 (dm_f0 13) := dOb.nw
  have e1 := pu_at (w := am_i (iI 0)) o1 (k := 1) (ble rfl)
  have E2 : Ext 5 d (dm_se (dm_nw d 4 (.inl (13, dm_f0 13))) d.1 (.inl (13, (dm_f0 13).set 1 (am_i (iI 0))))) := E1.se (Nat.le_refl _)
  have o2 : dOb (dm_se (dm_nw d 4 (.inl (13, dm_f0 13))) d.1 (.inl (13, (dm_f0 13).set 1 (am_i (iI 0))))) d.1 13 ((dm_f0 13).set 1 (am_i (iI 0))) := dOb.se o1.1
  generalize dm_se (dm_nw d 4 (.inl (13, dm_f0 13))) d.1 (.inl (13, (dm_f0 13).set 1 (am_i (iI 0)))) = d2 at e1 E2 o2
  obtain ⟨g, e3, hg⟩ := cpr_ok (X := X) (n := T.length) (E2.ar a) hf l1 l2 (by have := E2.2.1; omega)
  have o3 : dOb (dm_nw d2 T.length (.inr (.inl (1, T.length, g)))) d.1 13 ((dm_f0 13).set 1 (am_i (iI 0))) := Ext.nw.ob o2
  have e4 := pu_at (w := dm_o d2.1) o3 (k := 0) (ble rfl)
  have e5 : F_J0_init_81219 X (.inl 0, d.1) (.inl 0, b) (dm_nw d 4 (.inl (13, dm_f0 13))) = some (dm_se (dm_nw d2 T.length (.inr (.inl (1, T.length, g)))) d.1 (.inl (13, ((dm_f0 13).set 1 (am_i (iI 0))).set 0 (dm_o d2.1)))) := by
    unfold F_J0_init_81219 F_J0_init_db425 F_J5_getValue_6d5f1 F_J4_length_8abf5 F_J5_length_8abf5
    have o4 := E1.ob o
    have z1 : dm_fr (dm_nw d 4 (.inl (13, dm_f0 13))) (.inl 0, b) 14 0 = some (.inl 0, r) := fr_at o4 rfl
    have z2 : dm_fi (dm_nw d 4 (.inl (13, dm_f0 13))) (.inl 0, b) 14 3 = some (iI T.length) := fi_at o4 rfl
    simp only [rk_at o4, z1, z2, lat1 o4, Option.bind_some]
    rw [if_neg (by decide), e1]
    simp only [Option.bind_some]
    rw [e3]
    simp only [Option.bind_some]
    rw [e4]
    rfl
  refine Aok.b e5 ?_
  refine Aok.fin ⟨rfl, ⟨d2.1, g, [am_i 0, am_i 0], dOb.se o3.1, dAr.nw.sg (ar_ne o3 dAr.nw), fun i hi => ?_⟩, ?_⟩
  · rw [hg i hi]
    exact hT i hi
  · exact ((E2.tr Ext.nw).se (Nat.le_refl _)).le (by omega)
end SBN
