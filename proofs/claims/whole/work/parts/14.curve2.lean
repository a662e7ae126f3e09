theorem fm_xor (x y : Int32) : (0 ≤ (x ^^^ y)) ↔ (x < 0 ↔ y < 0) := by
  have h0 : ∀ z : Int32, z < 0 ↔ z.toBitVec.msb = true := by
    intro z
    show z.toBitVec.slt 0#32 = true ↔ _
    rw [BitVec.slt_zero_eq_msb]
  have h1 : (0 ≤ (x ^^^ y)) ↔ ¬ ((x ^^^ y) < 0) := by
    rw [Int32.not_lt]
  rw [h1, h0, h0, h0]
  show ¬ ((x.toBitVec ^^^ y.toBitVec).msb = true) ↔ _
  rw [BitVec.msb_xor]
  cases x.toBitVec.msb <;> cases y.toBitVec.msb <;> simp
theorem fm_rem {a : Int} (h1 : -2147483648 ≤ a) (h2 : a < 2147483648) : iI a - iI a / iI 3600 * iI 3600 = iI (a % 3600 - if 0 ≤ a ∨ (3600 : Int) ∣ a then 0 else 3600) := by
  rw [iI_d h1 h2 (by decide) (by decide) (by decide), iI_m, iI_s]
  have e1 := Int.tmod_eq_emod (a := a) (b := 3600)
  have e2 := Int.tmod_def a 3600
  congr 1
  rw [Int.mul_comm] at e2
  rw [← e2, e1]
  split <;> rfl
theorem k_floorMod (h : am_H) (a : Int) (ha : -2147483648 ≤ a ∧ a < 2147483648) : am_Mi yJ9_floorMod_7cf53 cJ9_floorMod_7cf53 3 (some .int) 0 0 [am_i ((iI a)), am_i ((iI 3600))] h (iI (a % 3600)) h := by
  refine am_M.ofi (A := [some (am_i ((iI a))), some (am_i ((iI 3600))), none]) (by decide +kernel) rfl (ble rfl) (fun Q hQ => ?_)
  refine rl_i0 dJ9_floorMod_7cf53_0 ?_
  refine rl_i1 dJ9_floorMod_7cf53_1 ?_
  refine ar_irem dJ9_floorMod_7cf53_2 (iI_ne0 (by omega) (by omega) (by omega)) ?_
  refine rs_i2 dJ9_floorMod_7cf53_3 rfl trivial ?_
  refine rl_i0 dJ9_floorMod_7cf53_4 ?_
  refine rl_i1 dJ9_floorMod_7cf53_5 ?_
  refine ar_ixor dJ9_floorMod_7cf53_6 ?_
  refine ar_if_ge 18 dJ9_floorMod_7cf53_7 (by decide) (fun c1 => ?_) (fun c1 => ?_)
  · rw [fm_rem ha.1 ha.2]
    have c2 := (fm_xor _ _).mp c1
    have c3 : ¬ iI a < 0 := fun z => absurd (c2.mp z) (by decide)
    have c3 : ¬ a < 0 := fun z => c3 ((iI_lt ha.1 ha.2 (b := 0) (by decide) (by decide)).mpr z)
    rw [if_pos (Or.inl (by omega)), Int.sub_zero]
    refine rl_i2 dJ9_floorMod_7cf53_18 ?_
    exact ar_iret dJ9_floorMod_7cf53_19 rfl rfl (hQ)
  · rw [fm_rem ha.1 ha.2]
    have c3 : iI a < 0 := by
      refine Classical.byContradiction fun z => c1 ((fm_xor _ _).mpr ⟨fun w => absurd w z, fun w => absurd w (by decide)⟩)
    have c3 : a < 0 := (iI_lt ha.1 ha.2 (b := 0) (by decide) (by decide)).mp c3
    refine rl_i2 dJ9_floorMod_7cf53_10 ?_
    refine ar_if_eq 18 dJ9_floorMod_7cf53_11 (by decide) (fun c4 => ?_) (fun c4 => ?_)
    · have c4 : iI (a % 3600 - if 0 ≤ a ∨ (3600 : Int) ∣ a then 0 else 3600) = iI 0 := c4
      have c4 := (iI_eq (by split <;> omega) (by split <;> omega) (by decide) (by decide)).mp c4
      have e : a % 3600 - (if 0 ≤ a ∨ (3600 : Int) ∣ a then 0 else 3600) = a % 3600 := by
        split at c4 <;> omega
      rw [e]
      refine rl_i2 dJ9_floorMod_7cf53_18 ?_
      exact ar_iret dJ9_floorMod_7cf53_19 rfl rfl (hQ)
    · have c5 : ¬ (3600 : Int) ∣ a := by
        intro z
        refine c4 ?_
        rw [if_pos (Or.inr z), show a % 3600 - 0 = 0 by omega]
        rfl
      rw [if_neg (by omega)]
      refine rl_i2 dJ9_floorMod_7cf53_14 ?_
      refine rl_i1 dJ9_floorMod_7cf53_15 ?_
      refine ar_iadd dJ9_floorMod_7cf53_16 ?_
      rw [iI_a, show a % 3600 - 3600 + 3600 = a % 3600 by omega]
      exact ar_iret dJ9_floorMod_7cf53_17 rfl rfl (hQ)
theorem k_headingTo (h : am_H) {k : Nat} (hk : k < 10) {v : pv_T} (hv : pv_ok v) (R : cl_cu h k v) {t : Int} (ht : 0 ≤ t ∧ t < 2147483648) : am_Mi yX0_headingTo cX0_headingTo 6 (some .int) 1 22 [am_r (.inr k) 1, am_i ((iI t))] h (iI (pv_bT v t (v.1 0) % 3600)) h := by
  have h8 := hv.1.1
  refine am_M.ofi (A := [some (am_r (.inr k) 1), some (am_i ((iI t))), none, none, none, none]) (by decide +kernel) rfl (ble rfl) (fun Q hQ => ?_)
  refine ar_iconst (iI (0)) dX0_headingTo_0 rfl ?_
  refine rs_i2 dX0_headingTo_1 rfl trivial ?_
  refine rl_i1 dX0_headingTo_2 ?_
  refine rs_i3 dX0_headingTo_3 rfl trivial ?_
  refine ar_iconst (iI (0)) dX0_headingTo_4 rfl ?_
  refine rs_i4 dX0_headingTo_5 rfl trivial ?_
  have key : ∀ (d i : Nat) (x : Option am_v), v.1 0 - i = d → i ≤ v.1 0 → (am_V RX0 cX0_headingTo 6 (some .int) 1 22 0 0 none (am_Tm cX0_headingTo (some .int) Q) 0 0 7 [some (am_r (.inr k) 1), some (am_i (iI t)), some (am_i (iI (pv_bT v t i))), some (am_i (iI (pv_lf v t i))), some (am_i (iI i)), x] [] h) := by
    intro d
    induction d with
    | zero =>
      intro i x hd hi
      have e : i = v.1 0 := by omega
      refine rl_i4 dX0_headingTo_7 ?_
      refine rl_a0 dX0_headingTo_9 ?_
      refine ar_getI dX0_headingTo_10 fg_X0_25 rfl rfl (ok_P hk rfl) ?_
      refine ar_ic_ge 60 dX0_headingTo_13 (by decide) (fun c1 => ?_) (fun c1 => ?_)
      · refine rl_i2 dX0_headingTo_60 ?_
        refine ar_sipush (iI (3600)) dX0_headingTo_61 rfl ?_
        have hb := sI_b (f := fun i => if v.2 3 i = 0 then pv_ps v t i else - pv_ps v t i) (n := v.1 0) (lo := -1800) (hi := 1800) (fun j hj => by
          have q := hv.2.1 j hj
          have q2 := pv_ps_b (v := v) (t := t) (i := j) (by omega)
          show -1800 ≤ (if v.2 3 j = 0 then pv_ps v t j else - pv_ps v t j) ∧ (if v.2 3 j = 0 then pv_ps v t j else - pv_ps v t j) ≤ 1800
          split <;> omega)
        have hb : -14400 ≤ pv_bT v t (v.1 0) ∧ pv_bT v t (v.1 0) ≤ 14400 := by
          unfold pv_bT
          omega
        rw [e]
        refine rc_S2i dX0_headingTo_64 ml_X0_56 mc_J9_floorMod_7cf53 (k_floorMod h (pv_bT v t (v.1 0)) (by omega)) rfl rfl rfl ?_
        exact ar_iret dX0_headingTo_67 rfl rfl (hQ)
      · rw [R.1, iI_le (by omega) (by omega) (by omega) (by omega)] at c1
        omega
    | succ d ih =>
      intro i x hd hi
      have hb := pv_lf_b hv ht.1 (i := i) (by omega)
      have hc := hv.2.1 i (by omega)
      refine rl_i4 dX0_headingTo_7 ?_
      refine rl_a0 dX0_headingTo_9 ?_
      refine ar_getI dX0_headingTo_10 fg_X0_25 rfl rfl (ok_P hk rfl) ?_
      refine ar_ic_ge 60 dX0_headingTo_13 (by decide) (fun c1 => ?_) (fun c1 => ?_)
      · rw [R.1, iI_le (by omega) (by omega) (by omega) (by omega)] at c1
        omega
      · refine rl_i3 dX0_headingTo_16 ?_
        refine rl_a0 dX0_headingTo_17 ?_
        refine rl_i4 dX0_headingTo_18 ?_
        refine rc_V1i dX0_headingTo_20 ml_X0_47 mc_X0_tenths (k_tenths h hk hv R (i := i) (by omega)) rfl rfl rfl (ok_P hk rfl) rfl rfl rfl ?_
        refine rc_S2i dX0_headingTo_23 ml_X0_50 mc_J9_min_7cf53 (k_min h (pv_lf v t i) (10 * v.2 2 i) (by omega) (by omega)) rfl rfl rfl ?_
        rw [pv_lf_m (by omega)]
        refine rs_i5 dX0_headingTo_26 rfl trivial ?_
        refine rl_i2 dX0_headingTo_28 ?_
        refine rl_a0 dX0_headingTo_29 ?_
        refine rg_R (.inr k) 5 dX0_headingTo_30 fg_X0_21 rfl rfl rfl (ok_P hk rfl) ?_
        refine rl_i4 dX0_headingTo_33 ?_
        refine ar_zald dX0_headingTo_35 rfl (ok_P hk rfl) (iI_in (by omega) (by omega) (by decide)) ?_
        refine ar_if_eq 45 dX0_headingTo_36 (by decide) (fun c2 => ?_) (fun c2 => ?_)
        · rw [iI_cl (by omega), (R.2 i (by omega)).2.2.2] at c2
          have c2 := (iI_eq (by omega) (by omega) (by decide) (by decide)).mp (show iI (v.2 3 i) = iI 0 from c2)
          refine rl_i5 dX0_headingTo_45 ?_
          refine ar_iadd dX0_headingTo_47 ?_
          refine rs_i2 dX0_headingTo_48 rfl trivial ?_
          refine rl_i3 dX0_headingTo_49 ?_
          refine rl_i5 dX0_headingTo_50 ?_
          refine ar_isub dX0_headingTo_52 ?_
          refine rs_i3 dX0_headingTo_53 rfl trivial ?_
          refine rn_1_4 dX0_headingTo_54 rfl trivial ?_
          refine ar_goto 7 dX0_headingTo_57 (by decide) ?_
          rw [iI_a, iI_s, iI_1, ← pv_lf_s (by omega), show pv_bT v t i + pv_ps v t i = pv_bT v t (i + 1) by show _ = pv_bT v t i + (if v.2 3 i = 0 then _ else _); rw [if_pos c2]]
          exact ih (i + 1) _ (by omega) (by omega)
        · rw [iI_cl (by omega), (R.2 i (by omega)).2.2.2] at c2
          have c2 : ¬ v.2 3 i = 0 := fun z => c2 (by rw [z]; rfl)
          refine rl_i5 dX0_headingTo_39 ?_
          refine ar_ineg dX0_headingTo_41 ?_
          refine ar_goto 47 dX0_headingTo_42 (by decide) ?_
          refine ar_iadd dX0_headingTo_47 ?_
          refine rs_i2 dX0_headingTo_48 rfl trivial ?_
          refine rl_i3 dX0_headingTo_49 ?_
          refine rl_i5 dX0_headingTo_50 ?_
          refine ar_isub dX0_headingTo_52 ?_
          refine rs_i3 dX0_headingTo_53 rfl trivial ?_
          refine rn_1_4 dX0_headingTo_54 rfl trivial ?_
          refine ar_goto 7 dX0_headingTo_57 (by decide) ?_
          rw [iI_n, iI_a, iI_s, iI_1, ← pv_lf_s (by omega), show pv_bT v t i + -pv_ps v t i = pv_bT v t (i + 1) by show _ = pv_bT v t i + (if v.2 3 i = 0 then _ else _); rw [if_neg c2]]
          exact ih (i + 1) _ (by omega) (by omega)
  have e0 : pv_lf v t 0 = t := by
    unfold pv_lf
    show (if t < 0 then 0 else t - 0) = t
    split <;> omega
  have := key (v.1 0) 0 none (by omega) (by omega)
  rw [e0] at this
  exact this
theorem k_turnWithin (h : am_H) {k : Nat} (hk : k < 10) {v : pv_T} (hv : pv_ok v) (R : cl_cu h k v) {q : Int} (hq : 0 ≤ q ∧ q ≤ 2865600) : am_Mi yX0_turnWithin cX0_turnWithin 6 (some .int) 1 21 [am_r (.inr k) 1, am_i ((iI q))] h (iI (pv_tW v q)) h := by
  have h8 := hv.1.1
  refine am_M.ofi (A := [some (am_r (.inr k) 1), some (am_i ((iI q))), none, none, none, none]) (by decide +kernel) rfl (ble rfl) (fun Q hQ => ?_)
  refine ar_iconst (iI (0)) dX0_turnWithin_0 rfl ?_
  refine rs_i2 dX0_turnWithin_1 rfl trivial ?_
  refine rl_i1 dX0_turnWithin_2 ?_
  refine rs_i3 dX0_turnWithin_3 rfl trivial ?_
  refine ar_iconst (iI (0)) dX0_turnWithin_4 rfl ?_
  refine rs_i4 dX0_turnWithin_5 rfl trivial ?_
  have key : ∀ (d i : Nat) (x : Option am_v), v.1 0 - i = d → i ≤ v.1 0 → pv_pA v i ≤ q → pv_fst (fun i => decide (q < pv_pA v (i + 1))) (v.1 0) 0 = pv_fst (fun i => decide (q < pv_pA v (i + 1))) d i → (am_V RX0 cX0_turnWithin 6 (some .int) 1 21 0 0 none (am_Tm cX0_turnWithin (some .int) Q) 0 0 7 [some (am_r (.inr k) 1), some (am_i (iI q)), some (am_i (iI (pv_tA v i))), some (am_i (iI (q - pv_pA v i))), some (am_i (iI i)), x] [] h) := by
    intro d
    induction d with
    | zero =>
      intro i x hd hi hle hp
      have e : i = v.1 0 := by omega
      unfold pv_tW at hQ
      rw [hp] at hQ
      rw [if_neg (by simp [pv_fst]; omega)] at hQ
      refine rl_i4 dX0_turnWithin_7 ?_
      refine rl_a0 dX0_turnWithin_9 ?_
      refine ar_getI dX0_turnWithin_10 fg_X0_25 rfl rfl (ok_P hk rfl) ?_
      refine ar_ic_ge 84 dX0_turnWithin_13 (by decide) (fun c1 => ?_) (fun c1 => ?_)
      · refine rl_i2 dX0_turnWithin_84 ?_
        rw [e]
        exact ar_iret dX0_turnWithin_85 rfl rfl (hQ)
      · rw [R.1, iI_le (by omega) (by omega) (by omega) (by omega)] at c1
        omega
    | succ d ih =>
      intro i x hd hi hle hp
      have hb := pv_pA_b hv (n := i) (by omega)
      have hb1 := pv_pA_b hv (n := i + 1) (by omega)
      have hbt := pv_tA_b hv (n := i + 1) (by omega)
      have hbt0 := pv_tA_b hv (n := i) (by omega)
      have hc := hv.2.1 i (by omega)
      have hs := pv_pA_s v i
      refine rl_i4 dX0_turnWithin_7 ?_
      refine rl_a0 dX0_turnWithin_9 ?_
      refine ar_getI dX0_turnWithin_10 fg_X0_25 rfl rfl (ok_P hk rfl) ?_
      refine ar_ic_ge 84 dX0_turnWithin_13 (by decide) (fun c1 => ?_) (fun c1 => ?_)
      · rw [R.1, iI_le (by omega) (by omega) (by omega) (by omega)] at c1
        omega
      · refine rl_a0 dX0_turnWithin_16 ?_
        refine rg_R (.inr k) 2 dX0_turnWithin_17 fg_X0_9 rfl rfl rfl (ok_P hk rfl) ?_
        refine rl_i4 dX0_turnWithin_20 ?_
        refine ar_iald dX0_turnWithin_22 rfl (ok_P hk rfl) (iI_in (by omega) (by omega) (by decide)) ?_
        refine rl_a0 dX0_turnWithin_23 ?_
        refine rl_i4 dX0_turnWithin_24 ?_
        rw [iI_cl (by omega), (R.2 i (by omega)).1]
        refine rc_V1i dX0_turnWithin_26 ml_X0_47 mc_X0_tenths (k_tenths h hk hv R (i := i) (by omega)) rfl rfl rfl (ok_P hk rfl) rfl rfl rfl ?_
        refine ar_imul dX0_turnWithin_29 ?_
        refine rs_i5 dX0_turnWithin_30 rfl trivial ?_
        refine rl_i3 dX0_turnWithin_32 ?_
        refine rl_i5 dX0_turnWithin_33 ?_
        refine ar_ic_ge 64 dX0_turnWithin_35 (by decide) (fun c2 => ?_) (fun c2 => ?_)
        · rw [iI_m, iI_le (by omega) (by omega) (by omega) (by omega)] at c2
          refine rl_i2 dX0_turnWithin_64 ?_
          refine rl_a0 dX0_turnWithin_65 ?_
          refine rl_i4 dX0_turnWithin_66 ?_
          refine rc_V1i dX0_turnWithin_68 ml_X0_47 mc_X0_tenths (k_tenths h hk hv R (i := i) (by omega)) rfl rfl rfl (ok_P hk rfl) rfl rfl rfl ?_
          refine ar_iadd dX0_turnWithin_71 ?_
          refine rs_i2 dX0_turnWithin_72 rfl trivial ?_
          refine rl_i3 dX0_turnWithin_73 ?_
          refine rl_i5 dX0_turnWithin_74 ?_
          refine ar_isub dX0_turnWithin_76 ?_
          refine rs_i3 dX0_turnWithin_77 rfl trivial ?_
          refine rn_1_4 dX0_turnWithin_78 rfl trivial ?_
          refine ar_goto 7 dX0_turnWithin_81 (by decide) ?_
          rw [iI_a, iI_m, iI_s, iI_1, ← pv_tA_s, show q - pv_pA v i - v.2 1 i * (10 * v.2 2 i) = q - pv_pA v (i + 1) by omega]
          refine ih (i + 1) _ (by omega) (by omega) (by omega) ?_
          rw [hp, pv_fst_f (by simp; omega)]
        · rw [iI_m, iI_le (by omega) (by omega) (by omega) (by omega)] at c2
          have e : pv_fst (fun i => decide (q < pv_pA v (i + 1))) (d + 1) i = i := pv_fst_t (by simp; omega)
          unfold pv_tW at hQ
          rw [hp, e, if_pos (by omega)] at hQ
          refine rl_a0 dX0_turnWithin_38 ?_
          refine rg_R (.inr k) 2 dX0_turnWithin_39 fg_X0_9 rfl rfl rfl (ok_P hk rfl) ?_
          refine rl_i4 dX0_turnWithin_42 ?_
          refine ar_iald dX0_turnWithin_44 rfl (ok_P hk rfl) (iI_in (by omega) (by omega) (by decide)) ?_
          refine ar_if_le 62 dX0_turnWithin_45 (by decide) (fun c3 => ?_) (fun c3 => ?_)
          · rw [iI_cl (by omega), (R.2 i (by omega)).1] at c3
            have c3 := (iI_le (by omega) (by omega) (by decide) (by decide)).mp (show iI (v.2 1 i) ≤ iI 0 from c3)
            omega
          · refine rl_i2 dX0_turnWithin_48 ?_
            refine rl_i3 dX0_turnWithin_49 ?_
            refine rl_a0 dX0_turnWithin_50 ?_
            refine rg_R (.inr k) 2 dX0_turnWithin_51 fg_X0_9 rfl rfl rfl (ok_P hk rfl) ?_
            refine rl_i4 dX0_turnWithin_54 ?_
            refine ar_iald dX0_turnWithin_56 rfl (ok_P hk rfl) (iI_in (by omega) (by omega) (by decide)) ?_
            refine ar_idiv dX0_turnWithin_57 (by rw [iI_cl (by omega), (R.2 i (by omega)).1]; exact iI_ne0 (by omega) (by omega) (by omega)) ?_
            refine ar_iadd dX0_turnWithin_58 ?_
            refine ar_goto 63 dX0_turnWithin_59 (by decide) ?_
            rw [iI_cl (by omega), (R.2 i (by omega)).1, iI_dn (by omega) (by omega) (by omega) (by omega), iI_a]
            exact ar_iret dX0_turnWithin_63 rfl rfl (hQ)
  have := key (v.1 0) 0 none (by omega) (by omega) (by show (0:Int) ≤ q; omega) rfl
  rw [show pv_pA v 0 = 0 from rfl, show pv_tA v 0 = 0 from rfl, Int.sub_zero] at this
  exact this
theorem k_greatestBend (h : am_H) {k : Nat} (hk : k < 10) {v : pv_T} (hv : pv_ok v) (R : cl_cu h k v) : am_Mi yX0_greatestBend cX0_greatestBend 4 (some .int) 1 21 [am_r (.inr k) 1] h (iI (pv_gB v (v.1 0))) h := by
  have h8 := hv.1.1
  have hbA : ∀ n, n ≤ v.1 0 → -14400 ≤ pv_bA v n ∧ pv_bA v n ≤ 14400 := by
    intro n hn
    have hb := sI_b (f := fun i => if v.2 3 i = 0 then 10 * v.2 2 i else - (10 * v.2 2 i)) (n := n) (lo := -1800) (hi := 1800) (fun j hj => by
      have q := hv.2.1 j (by omega)
      show -1800 ≤ (if v.2 3 j = 0 then 10 * v.2 2 j else - (10 * v.2 2 j)) ∧ (if v.2 3 j = 0 then 10 * v.2 2 j else - (10 * v.2 2 j)) ≤ 1800
      split <;> omega)
    unfold pv_bA
    omega
  have hgB : ∀ n, n ≤ v.1 0 → -14400 ≤ pv_gB v n ∧ pv_gB v n ≤ 14400 := by
    intro n
    induction n with
    | zero => intro _; exact ⟨(by decide : (-14400 : Int) ≤ 0), (by decide : (0 : Int) ≤ 14400)⟩
    | succ n ih =>
      intro hn
      have h1 := ih (by omega)
      have h2 := hbA (n + 1) hn
      show _ ≤ (if _ then _ else _) ∧ (if _ then _ else _) ≤ _
      split <;> omega
  refine am_M.ofi (A := [some (am_r (.inr k) 1), none, none, none]) (by decide +kernel) rfl (ble rfl) (fun Q hQ => ?_)
  refine ar_iconst (iI (0)) dX0_greatestBend_0 rfl ?_
  refine rs_i1 dX0_greatestBend_1 rfl trivial ?_
  refine ar_iconst (iI (0)) dX0_greatestBend_2 rfl ?_
  refine rs_i2 dX0_greatestBend_3 rfl trivial ?_
  refine ar_iconst (iI (0)) dX0_greatestBend_4 rfl ?_
  refine rs_i3 dX0_greatestBend_5 rfl trivial ?_
  have key : ∀ (d i : Nat), v.1 0 - i = d → i ≤ v.1 0 → (am_V RX0 cX0_greatestBend 4 (some .int) 1 21 0 0 none (am_Tm cX0_greatestBend (some .int) Q) 0 0 6 [some (am_r (.inr k) 1), some (am_i (iI (pv_gB v i))), some (am_i (iI (pv_bA v i))), some (am_i (iI i))] [] h) := by
    intro d
    induction d with
    | zero =>
      intro i hd hi
      have e : i = v.1 0 := by omega
      refine rl_i3 dX0_greatestBend_6 ?_
      refine rl_a0 dX0_greatestBend_7 ?_
      refine ar_getI dX0_greatestBend_8 fg_X0_25 rfl rfl (ok_P hk rfl) ?_
      refine ar_ic_ge 52 dX0_greatestBend_11 (by decide) (fun c1 => ?_) (fun c1 => ?_)
      · refine rl_i1 dX0_greatestBend_52 ?_
        rw [e]
        exact ar_iret dX0_greatestBend_53 rfl rfl (hQ)
      · rw [R.1, iI_le (by omega) (by omega) (by omega) (by omega)] at c1
        omega
    | succ d ih =>
      intro i hd hi
      have hc := hv.2.1 i (by omega)
      have hb1 := hbA (i + 1) (by omega)
      have hb0 := hgB i (by omega)
      refine rl_i3 dX0_greatestBend_6 ?_
      refine rl_a0 dX0_greatestBend_7 ?_
      refine ar_getI dX0_greatestBend_8 fg_X0_25 rfl rfl (ok_P hk rfl) ?_
      refine ar_ic_ge 52 dX0_greatestBend_11 (by decide) (fun c1 => ?_) (fun c1 => ?_)
      · rw [R.1, iI_le (by omega) (by omega) (by omega) (by omega)] at c1
        omega
      · refine rl_i2 dX0_greatestBend_14 ?_
        refine rl_a0 dX0_greatestBend_15 ?_
        refine rg_R (.inr k) 5 dX0_greatestBend_16 fg_X0_21 rfl rfl rfl (ok_P hk rfl) ?_
        refine rl_i3 dX0_greatestBend_19 ?_
        refine ar_zald dX0_greatestBend_20 rfl (ok_P hk rfl) (iI_in (by omega) (by omega) (by decide)) ?_
        refine ar_if_eq 33 dX0_greatestBend_21 (by decide) (fun c2 => ?_) (fun c2 => ?_)
        · rw [iI_cl (by omega), (R.2 i (by omega)).2.2.2] at c2
          have c2 := (iI_eq (by omega) (by omega) (by decide) (by decide)).mp (show iI (v.2 3 i) = iI 0 from c2)
          refine rl_a0 dX0_greatestBend_33 ?_
          refine rl_i3 dX0_greatestBend_34 ?_
          refine rc_V1i dX0_greatestBend_35 ml_X0_47 mc_X0_tenths (k_tenths h hk hv R (i := i) (by omega)) rfl rfl rfl (ok_P hk rfl) rfl rfl rfl ?_
          refine ar_iadd dX0_greatestBend_38 ?_
          refine rs_i2 dX0_greatestBend_39 rfl trivial ?_
          refine rl_i1 dX0_greatestBend_40 ?_
          refine rl_i2 dX0_greatestBend_41 ?_
          rw [iI_a, show pv_bA v i + 10 * v.2 2 i = pv_bA v (i + 1) by show _ = pv_bA v i + (if v.2 3 i = 0 then _ else _); rw [if_pos c2]]
          refine rc_S2i dX0_greatestBend_42 ml_X0_59 mc_J9_max_7cf53 (k_max h (pv_gB v i) (pv_bA v (i + 1)) (by omega) (by omega)) rfl rfl rfl ?_
          refine rs_i1 dX0_greatestBend_45 rfl trivial ?_
          refine rn_1_3 dX0_greatestBend_46 rfl trivial ?_
          refine ar_goto 6 dX0_greatestBend_49 (by decide) ?_
          rw [iI_1]
          exact ih (i + 1) (by omega) (by omega)
        · rw [iI_cl (by omega), (R.2 i (by omega)).2.2.2] at c2
          have c2 : ¬ v.2 3 i = 0 := fun z => c2 (by rw [z]; rfl)
          refine rl_a0 dX0_greatestBend_24 ?_
          refine rl_i3 dX0_greatestBend_25 ?_
          refine rc_V1i dX0_greatestBend_26 ml_X0_47 mc_X0_tenths (k_tenths h hk hv R (i := i) (by omega)) rfl rfl rfl (ok_P hk rfl) rfl rfl rfl ?_
          refine ar_ineg dX0_greatestBend_29 ?_
          refine ar_goto 38 dX0_greatestBend_30 (by decide) ?_
          refine ar_iadd dX0_greatestBend_38 ?_
          refine rs_i2 dX0_greatestBend_39 rfl trivial ?_
          refine rl_i1 dX0_greatestBend_40 ?_
          refine rl_i2 dX0_greatestBend_41 ?_
          rw [iI_n, iI_a, show pv_bA v i + -(10 * v.2 2 i) = pv_bA v (i + 1) by show _ = pv_bA v i + (if v.2 3 i = 0 then _ else _); rw [if_neg c2]]
          refine rc_S2i dX0_greatestBend_42 ml_X0_59 mc_J9_max_7cf53 (k_max h (pv_gB v i) (pv_bA v (i + 1)) (by omega) (by omega)) rfl rfl rfl ?_
          refine rs_i1 dX0_greatestBend_45 rfl trivial ?_
          refine rn_1_3 dX0_greatestBend_46 rfl trivial ?_
          refine ar_goto 6 dX0_greatestBend_49 (by decide) ?_
          rw [iI_1]
          exact ih (i + 1) (by omega) (by omega)
  exact key (v.1 0) 0 (by omega) (by omega)

