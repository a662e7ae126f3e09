/-! every case of the law -/
theorem i32_of (x : Int32) : ∃ t : Int, x = iI t ∧ (-2147483648 ≤ t ∧ t < 2147483648) := ⟨x.toInt, (Int32.ofInt_toInt x).symm, Int32.le_toInt x, Int32.toInt_lt x⟩
def OkR (h : am_H) : Prop := ∃ st, Ok st ∧ ClR h st ∧ MoR h st
def bnd (L : Nat) (x4 : Int32) : Prop := ib (x4 + iI 1) L ∧ ib (x4 + iI 2) L ∧ ib (x4 + iI 3) L ∧ ib (x4 + iI 4) L ∧ ib (x4 + iI 5) L
theorem sTr_ok {st : St} {n : Int} (ok : Ok st) : Ok (sTr st n) := by
  unfold sTr
  split
  · exact ⟨ok.1, ok.2.1, ok.2.2.1, ⟨by have := ok.2.2.2.1.1; show Int.toNat n ≤ 500; omega, ok.2.2.2.1.2⟩, ok.2.2.2.2⟩
  · exact ok
section TJS
variable {h : am_H} {st : St} {L : Nat} {xs : Nat → Int32} {x4 : Int32}
theorem u_0 (ok : Ok st) (C : ClR h st) (M : MoR h st) (b : bnd L x4) : ∃ h', law_0 L xs x4 h = some h' ∧ OkR h' := by
  unfold law_0
  simp only [if_pos b.1, if_pos b.2.1, if_pos b.2.2.1, if_pos b.2.2.2.1, if_pos b.2.2.2.2]
  obtain ⟨h', e, c, m⟩ := tyA_ok M (cl_feed ok C) (fun _ M2 => mo_feed ok M2)
  exact ⟨h', e, _, sFe_ok ok, c, m⟩
theorem u_1 (ok : Ok st) (C : ClR h st) (M : MoR h st) (b : bnd L x4) : ∃ h', law_1 L xs x4 h = some h' ∧ OkR h' := by
  unfold law_1
  simp only [if_pos b.1]
  generalize xs (x4 + iI 1).toNatClampNeg = x1
  obtain ⟨t1, rfl, r1⟩ := i32_of x1
  obtain ⟨h', e, c, m⟩ := tyA_ok M (cl_truncate ok C r1) (fun _ M2 => mo_truncate ok M2 r1)
  exact ⟨h', e, _, sTr_ok ok, c, m⟩
theorem u_2 (ok : Ok st) (C : ClR h st) (M : MoR h st) (b : bnd L x4) : ∃ h', law_2 L xs x4 h = some h' ∧ OkR h' := by
  unfold law_2
  obtain ⟨h', e, c, m⟩ := tyA_ok M (cl_readText ok C) (fun _ M2 => mo_readText ok M2)
  exact ⟨h', e, _, sRT_ok ok, c, m⟩
theorem u_3 (ok : Ok st) (C : ClR h st) (M : MoR h st) (b : bnd L x4) : ∃ h', law_3 L xs x4 h = some h' ∧ OkR h' := by
  unfold law_3
  obtain ⟨h', e, c, m⟩ := tyA_ok M (cl_runScript ok C) (fun _ M2 => mo_runScript ok M2)
  exact ⟨h', e, _, sRS_ok ok, c, m⟩
theorem u_4 (ok : Ok st) (C : ClR h st) (M : MoR h st) (b : bnd L x4) : ∃ h', law_4 L xs x4 h = some h' ∧ OkR h' := by
  unfold law_4
  obtain ⟨h', e, c, m⟩ := tyB_ok' M C (cl_errorCode C) (fun _ M2 => mo_errorCode M2)
  exact ⟨h', e, _, ok, c, m⟩
theorem u_5 (ok : Ok st) (C : ClR h st) (M : MoR h st) (b : bnd L x4) : ∃ h', law_5 L xs x4 h = some h' ∧ OkR h' := by
  unfold law_5
  obtain ⟨h', e, c, m⟩ := tyB_ok' M C (cl_errorPosition C) (fun _ M2 => mo_errorPosition M2)
  exact ⟨h', e, _, ok, c, m⟩
theorem u_6 (ok : Ok st) (C : ClR h st) (M : MoR h st) (b : bnd L x4) : ∃ h', law_6 L xs x4 h = some h' ∧ OkR h' := by
  unfold law_6
  simp only [if_pos b.1]
  generalize xs (x4 + iI 1).toNatClampNeg = x1
  obtain ⟨t1, rfl, r1⟩ := i32_of x1
  obtain ⟨h', e, c, m⟩ := tyA_ok M (cl_setting ok C r1) (fun _ M2 => mo_setting ok M2 r1)
  exact ⟨h', e, _, ok, c, m⟩
theorem u_7 (ok : Ok st) (C : ClR h st) (M : MoR h st) (b : bnd L x4) : ∃ h', law_7 L xs x4 h = some h' ∧ OkR h' := by
  unfold law_7
  simp only [if_pos b.1, if_pos b.2.1]
  generalize xs (x4 + iI 1).toNatClampNeg = x1
  generalize xs (x4 + iI 2).toNatClampNeg = x2
  obtain ⟨t1, rfl, r1⟩ := i32_of x1
  obtain ⟨t2, rfl, r2⟩ := i32_of x2
  obtain ⟨h', e, c, m⟩ := tyA_ok M (cl_arc ok C r1 r2) (fun _ M2 => mo_arc ok M2 r1 r2)
  exact ⟨h', e, _, ok, c, m⟩
theorem u_8 (ok : Ok st) (C : ClR h st) (M : MoR h st) (b : bnd L x4) : ∃ h', law_8 L xs x4 h = some h' ∧ OkR h' := by
  unfold law_8
  simp only [if_pos b.1, if_pos b.2.1]
  generalize xs (x4 + iI 1).toNatClampNeg = x1
  generalize xs (x4 + iI 2).toNatClampNeg = x2
  obtain ⟨t1, rfl, r1⟩ := i32_of x1
  obtain ⟨t2, rfl, r2⟩ := i32_of x2
  obtain ⟨h', e, c, m⟩ := tyA_ok M (cl_letter ok C r1 r2) (fun _ M2 => mo_letter ok M2 r1 r2)
  exact ⟨h', e, _, ok, c, m⟩
theorem u_9 (ok : Ok st) (C : ClR h st) (M : MoR h st) (b : bnd L x4) : ∃ h', law_9 L xs x4 h = some h' ∧ OkR h' := by
  unfold law_9
  simp only [if_pos b.1, if_pos b.2.1]
  generalize xs (x4 + iI 1).toNatClampNeg = x1
  generalize xs (x4 + iI 2).toNatClampNeg = x2
  obtain ⟨t1, rfl, r1⟩ := i32_of x1
  obtain ⟨t2, rfl, r2⟩ := i32_of x2
  obtain ⟨h', e, c, m⟩ := tyA_ok M (cl_scratch ok C r1 r2) (fun _ M2 => mo_scratch ok M2 r1 r2)
  exact ⟨h', e, _, ok, c, m⟩
theorem u_10 (ok : Ok st) (C : ClR h st) (M : MoR h st) (b : bnd L x4) : ∃ h', law_10 L xs x4 h = some h' ∧ OkR h' := by
  unfold law_10
  simp only [if_pos b.1, if_pos b.2.1]
  generalize xs (x4 + iI 1).toNatClampNeg = x1
  generalize xs (x4 + iI 2).toNatClampNeg = x2
  obtain ⟨t1, rfl, r1⟩ := i32_of x1
  obtain ⟨t2, rfl, r2⟩ := i32_of x2
  obtain ⟨h', e, c, m⟩ := tyA_ok M (cl_flourishLetter ok C r1 r2) (fun _ M2 => mo_flourishLetter ok M2 r1 r2)
  exact ⟨h', e, _, ok, c, m⟩
theorem u_11 (ok : Ok st) (C : ClR h st) (M : MoR h st) (b : bnd L x4) : ∃ h', law_11 L xs x4 h = some h' ∧ OkR h' := by
  unfold law_11
  simp only [if_pos b.1]
  generalize xs (x4 + iI 1).toNatClampNeg = x1
  obtain ⟨t1, rfl, r1⟩ := i32_of x1
  obtain ⟨h', e, c, m⟩ := tyA_ok M (cl_partsAt ok C r1) (fun _ M2 => mo_partsAt ok M2 r1)
  exact ⟨h', e, _, ok, c, m⟩
theorem u_12 (ok : Ok st) (C : ClR h st) (M : MoR h st) (b : bnd L x4) : ∃ h', law_12 L xs x4 h = some h' ∧ OkR h' := by
  unfold law_12
  simp only [if_pos b.1]
  generalize xs (x4 + iI 1).toNatClampNeg = x1
  obtain ⟨t1, rfl, r1⟩ := i32_of x1
  obtain ⟨h', e, c, m⟩ := tyA_ok M (cl_heading ok C r1) (fun _ M2 => mo_heading ok M2 r1)
  exact ⟨h', e, _, ok, c, m⟩
theorem u_13 (ok : Ok st) (C : ClR h st) (M : MoR h st) (b : bnd L x4) : ∃ h', law_13 L xs x4 h = some h' ∧ OkR h' := by
  unfold law_13
  simp only [if_pos b.1]
  generalize xs (x4 + iI 1).toNatClampNeg = x1
  obtain ⟨t1, rfl, r1⟩ := i32_of x1
  obtain ⟨h', e, c, m⟩ := tyA_ok M (cl_turnAt ok C r1) (fun _ M2 => mo_turnAt ok M2 r1)
  exact ⟨h', e, _, ok, c, m⟩
theorem u_14 (ok : Ok st) (C : ClR h st) (M : MoR h st) (b : bnd L x4) : ∃ h', law_14 L xs x4 h = some h' ∧ OkR h' := by
  unfold law_14
  obtain ⟨h', e, c, m⟩ := tyB_ok' M C (cl_farthestLeft ok C) (fun _ M2 => mo_farthestLeft ok M2)
  exact ⟨h', e, _, ok, c, m⟩
theorem u_15 (ok : Ok st) (C : ClR h st) (M : MoR h st) (b : bnd L x4) : ∃ h', law_15 L xs x4 h = some h' ∧ OkR h' := by
  unfold law_15
  simp only [if_pos b.1]
  generalize xs (x4 + iI 1).toNatClampNeg = x1
  obtain ⟨t1, rfl, r1⟩ := i32_of x1
  obtain ⟨h', e, c, m⟩ := tyA_ok M (cl_room ok C r1) (fun _ M2 => mo_room ok M2 r1)
  exact ⟨h', e, _, ok, c, m⟩
theorem u_16 (ok : Ok st) (C : ClR h st) (M : MoR h st) (b : bnd L x4) : ∃ h', law_16 L xs x4 h = some h' ∧ OkR h' := by
  unfold law_16
  obtain ⟨h', e, c, m⟩ := tyB_ok M (cl_crowded ok C) (fun _ M2 => mo_crowded ok M2)
  exact ⟨h', e, _, ok, c, m⟩
theorem u_17 (ok : Ok st) (C : ClR h st) (M : MoR h st) (b : bnd L x4) : ∃ h', law_17 L xs x4 h = some h' ∧ OkR h' := by
  unfold law_17
  obtain ⟨h', e, c, m⟩ := tyB_ok M (cl_tightest ok C) (fun _ M2 => mo_tightest ok M2)
  exact ⟨h', e, _, ok, c, m⟩
theorem u_18 (ok : Ok st) (C : ClR h st) (M : MoR h st) (b : bnd L x4) : ∃ h', law_18 L xs x4 h = some h' ∧ OkR h' := by
  unfold law_18
  simp only [if_pos b.1]
  generalize xs (x4 + iI 1).toNatClampNeg = x1
  obtain ⟨t1, rfl, r1⟩ := i32_of x1
  obtain ⟨h', e, c, m⟩ := tyA_ok M (cl_flourishIn ok C r1) (fun _ M2 => mo_flourishIn ok M2 r1)
  exact ⟨h', e, _, ok, c, m⟩
theorem u_19 (ok : Ok st) (C : ClR h st) (M : MoR h st) (b : bnd L x4) : ∃ h', law_19 L xs x4 h = some h' ∧ OkR h' := by
  unfold law_19
  simp only [if_pos b.1]
  generalize xs (x4 + iI 1).toNatClampNeg = x1
  obtain ⟨t1, rfl, r1⟩ := i32_of x1
  obtain ⟨h', e, c, m⟩ := tyA_ok M (cl_stockLeft ok C r1) (fun _ M2 => mo_stockLeft ok M2 r1)
  exact ⟨h', e, _, ok, c, m⟩
theorem u_20 (ok : Ok st) (C : ClR h st) (M : MoR h st) (b : bnd L x4) : ∃ h', law_20 L xs x4 h = some h' ∧ OkR h' := by
  unfold law_20
  obtain ⟨h', e, c, m⟩ := tyB_ok M (cl_worth ok C) (fun _ M2 => mo_worth ok M2)
  exact ⟨h', e, _, ok, c, m⟩
theorem u_21 (ok : Ok st) (C : ClR h st) (M : MoR h st) (b : bnd L x4) : ∃ h', law_21 L xs x4 h = some h' ∧ OkR h' := by
  obtain ⟨h', e, c, m⟩ := t_21 (L := L) (xs := xs) (x4 := x4) ok C M
  exact ⟨h', e, _, ok, c, m⟩
theorem u_22 (ok : Ok st) (C : ClR h st) (M : MoR h st) (b : bnd L x4) : ∃ h', law_22 L xs x4 h = some h' ∧ OkR h' := by
  obtain ⟨h', e, c, m⟩ := t_22 (L := L) (xs := xs) (x4 := x4) ok C M
  exact ⟨h', e, _, ok, c, m⟩
theorem u_23 (ok : Ok st) (C : ClR h st) (M : MoR h st) (b : bnd L x4) : ∃ h', law_23 L xs x4 h = some h' ∧ OkR h' := by
  unfold law_23
  simp only [if_pos b.1]
  generalize xs (x4 + iI 1).toNatClampNeg = x1
  obtain ⟨t1, rfl, r1⟩ := i32_of x1
  obtain ⟨h', e, c, m⟩ := tyA_ok M (cl_danger ok C r1) (fun _ M2 => mo_danger ok M2 r1)
  exact ⟨h', e, _, ok, c, m⟩
theorem u_24 (ok : Ok st) (C : ClR h st) (M : MoR h st) (b : bnd L x4) : ∃ h', law_24 L xs x4 h = some h' ∧ OkR h' := by
  obtain ⟨h', e, c, m⟩ := t_24 (L := L) (xs := xs) (x4 := x4) ok C M
  exact ⟨h', e, _, ok, c, m⟩
theorem u_25 (ok : Ok st) (C : ClR h st) (M : MoR h st) (b : bnd L x4) : ∃ h', law_25 L xs x4 h = some h' ∧ OkR h' := by
  obtain ⟨h', e, c, m⟩ := t_25 (L := L) (xs := xs) (x4 := x4) ok C M
  exact ⟨h', e, _, ok, c, m⟩
theorem u_26 (ok : Ok st) (C : ClR h st) (M : MoR h st) (b : bnd L x4) : ∃ h', law_26 L xs x4 h = some h' ∧ OkR h' := by
  obtain ⟨h', e, c, m⟩ := t_26 (L := L) (xs := xs) (x4 := x4) ok C M
  exact ⟨h', e, _, ok, c, m⟩
theorem u_27 (ok : Ok st) (C : ClR h st) (M : MoR h st) (b : bnd L x4) : ∃ h', law_27 L xs x4 h = some h' ∧ OkR h' := by
  unfold law_27
  simp only [if_pos b.1]
  generalize xs (x4 + iI 1).toNatClampNeg = x1
  obtain ⟨t1, rfl, r1⟩ := i32_of x1
  obtain ⟨h', e, c, m⟩ := tyA_ok M (cl_mostWidth ok C r1) (fun _ M2 => mo_mostWidth ok M2 r1)
  exact ⟨h', e, _, ok, c, m⟩
theorem u_28 (ok : Ok st) (C : ClR h st) (M : MoR h st) (b : bnd L x4) : ∃ h', law_28 L xs x4 h = some h' ∧ OkR h' := by
  unfold law_28
  obtain ⟨h', e, c, m⟩ := tyA_ok M (cl_tightestIf ok C) (fun _ M2 => mo_tightestIf ok M2)
  exact ⟨h', e, _, sE_ok ok, c, m⟩
theorem u_29 (ok : Ok st) (C : ClR h st) (M : MoR h st) (b : bnd L x4) : ∃ h', law_29 L xs x4 h = some h' ∧ OkR h' := by
  unfold law_29
  obtain ⟨h', e, c, m⟩ := tyB_ok M (cl_spare ok C) (fun _ M2 => mo_spare ok M2)
  exact ⟨h', e, _, ok, c, m⟩
theorem u_30 (ok : Ok st) (C : ClR h st) (M : MoR h st) (b : bnd L x4) : ∃ h', law_30 L xs x4 h = some h' ∧ OkR h' := by
  unfold law_30
  simp only [if_pos b.1]
  generalize xs (x4 + iI 1).toNatClampNeg = x1
  obtain ⟨t1, rfl, r1⟩ := i32_of x1
  obtain ⟨h', e, c, m⟩ := tyA_ok M (cl_engrave ok C r1) (fun _ M2 => mo_engrave ok M2 r1)
  exact ⟨h', e, _, sEn_ok ok, c, m⟩
theorem u_31 (ok : Ok st) (C : ClR h st) (M : MoR h st) (b : bnd L x4) : ∃ h', law_31 L xs x4 h = some h' ∧ OkR h' := by
  unfold law_31
  obtain ⟨h', e, c, m⟩ := tyA_ok M (cl_engraveAll ok C) (fun _ M2 => mo_engraveAll ok M2)
  exact ⟨h', e, _, sEa_ok ok, c, m⟩
theorem u_32 (ok : Ok st) (C : ClR h st) (M : MoR h st) (b : bnd L x4) : ∃ h', law_32 L xs x4 h = some h' ∧ OkR h' := by
  unfold law_32
  simp only [if_pos b.1]
  generalize xs (x4 + iI 1).toNatClampNeg = x1
  obtain ⟨t1, rfl, r1⟩ := i32_of x1
  obtain ⟨h', e, c, m⟩ := tyA_ok M (cl_mend ok C r1) (fun _ M2 => mo_mend ok M2 r1)
  exact ⟨h', e, _, sMe_ok ok, c, m⟩
theorem u_33 (ok : Ok st) (C : ClR h st) (M : MoR h st) (b : bnd L x4) : ∃ h', law_33 L xs x4 h = some h' ∧ OkR h' := by
  unfold law_33
  simp only [if_pos b.1]
  generalize xs (x4 + iI 1).toNatClampNeg = x1
  obtain ⟨t1, rfl, r1⟩ := i32_of x1
  obtain ⟨h', e, c, m⟩ := tyA_ok M (cl_polish ok C r1) (fun _ M2 => mo_polish ok M2 r1)
  exact ⟨h', e, _, sPo_ok ok, c, m⟩
theorem u_34 (ok : Ok st) (C : ClR h st) (M : MoR h st) (b : bnd L x4) : ∃ h', law_34 L xs x4 h = some h' ∧ OkR h' := by
  unfold law_34
  simp only [if_pos b.1]
  generalize xs (x4 + iI 1).toNatClampNeg = x1
  obtain ⟨t1, rfl, r1⟩ := i32_of x1
  obtain ⟨h', e, c, m⟩ := tyA_ok M (cl_sharpen ok C r1) (fun _ M2 => mo_sharpen ok M2 r1)
  exact ⟨h', e, _, sSh_ok ok, c, m⟩
theorem u_35 (ok : Ok st) (C : ClR h st) (M : MoR h st) (b : bnd L x4) : ∃ h', law_35 L xs x4 h = some h' ∧ OkR h' := by
  unfold law_35
  simp only [if_pos b.1]
  generalize xs (x4 + iI 1).toNatClampNeg = x1
  obtain ⟨t1, rfl, r1⟩ := i32_of x1
  obtain ⟨h', e, c, m⟩ := tyA_ok M (cl_setMargin ok C r1) (fun _ M2 => mo_setMargin ok M2 r1)
  exact ⟨h', e, _, sSm_ok ok, c, m⟩
theorem u_36 (ok : Ok st) (C : ClR h st) (M : MoR h st) (b : bnd L x4) : ∃ h', law_36 L xs x4 h = some h' ∧ OkR h' := by
  unfold law_36
  simp only [if_pos b.1, if_pos b.2.1]
  generalize xs (x4 + iI 1).toNatClampNeg = x1
  generalize xs (x4 + iI 2).toNatClampNeg = x2
  obtain ⟨t1, rfl, r1⟩ := i32_of x1
  obtain ⟨t2, rfl, r2⟩ := i32_of x2
  obtain ⟨h', e, c, m⟩ := tyA_ok M (cl_setRadius ok C r1 r2) (fun _ M2 => mo_setRadius ok M2 r1 r2)
  exact ⟨h', e, _, sSr_ok ok, c, m⟩
theorem u_37 (ok : Ok st) (C : ClR h st) (M : MoR h st) (b : bnd L x4) : ∃ h', law_37 L xs x4 h = some h' ∧ OkR h' := by
  unfold law_37
  simp only [if_pos b.1, if_pos b.2.1]
  generalize xs (x4 + iI 1).toNatClampNeg = x1
  generalize xs (x4 + iI 2).toNatClampNeg = x2
  obtain ⟨t1, rfl, r1⟩ := i32_of x1
  obtain ⟨t2, rfl, r2⟩ := i32_of x2
  obtain ⟨h', e, c, m⟩ := tyA_ok M (cl_setWidth ok C r1 r2) (fun _ M2 => mo_setWidth ok M2 r1 r2)
  exact ⟨h', e, _, sSw_ok ok, c, m⟩
theorem u_38 (ok : Ok st) (C : ClR h st) (M : MoR h st) (b : bnd L x4) : ∃ h', law_38 L xs x4 h = some h' ∧ OkR h' := by
  unfold law_38
  obtain ⟨h', e, c, m⟩ := tyB_ok M (cl_report ok C) (fun _ M2 => mo_report ok M2)
  exact ⟨h', e, _, sRp_ok ok, c, m⟩
theorem u_39 (ok : Ok st) (C : ClR h st) (M : MoR h st) (b : bnd L x4) : ∃ h', law_39 L xs x4 h = some h' ∧ OkR h' := by
  unfold law_39
  simp only [if_pos b.1]
  generalize xs (x4 + iI 1).toNatClampNeg = x1
  obtain ⟨t1, rfl, r1⟩ := i32_of x1
  obtain ⟨h', e, c, m⟩ := tyA_ok M (cl_reportByte ok C r1) (fun _ M2 => mo_reportByte ok M2 r1)
  exact ⟨h', e, _, ok, c, m⟩
theorem u_40 (ok : Ok st) (C : ClR h st) (M : MoR h st) (b : bnd L x4) : ∃ h', law_40 L xs x4 h = some h' ∧ OkR h' := by
  unfold law_40
  obtain ⟨h', e, c, m⟩ := tyB_ok M (cl_undo ok C) (fun _ M2 => mo_undo ok M2)
  exact ⟨h', e, _, sUn_ok ok, c, m⟩
theorem u_41 (ok : Ok st) (C : ClR h st) (M : MoR h st) (b : bnd L x4) : ∃ h', law_41 L xs x4 h = some h' ∧ OkR h' := by
  unfold law_41
  obtain ⟨h', e, c, m⟩ := tyB_ok M (cl_save ok C) (fun _ M2 => mo_save ok M2)
  exact ⟨h', e, _, sSv_ok ok, c, m⟩
theorem u_42 (ok : Ok st) (C : ClR h st) (M : MoR h st) (b : bnd L x4) : ∃ h', law_42 L xs x4 h = some h' ∧ OkR h' := by
  unfold law_42
  obtain ⟨h', e, c, m⟩ := tyA_ok M (cl_restore ok C) (fun _ M2 => mo_restore ok M2)
  exact ⟨h', e, _, sRe_ok ok, c, m⟩
theorem u_st (R : OkR h) (b : bnd L x4) : ∀ z, ∃ h', law_st L xs x4 h z = some h' ∧ OkR h'
  | 0 => by obtain ⟨st, ok, C, M⟩ := R; exact u_0 (xs := xs) ok C M b
  | 1 => by obtain ⟨st, ok, C, M⟩ := R; exact u_1 (xs := xs) ok C M b
  | 2 => by obtain ⟨st, ok, C, M⟩ := R; exact u_2 (xs := xs) ok C M b
  | 3 => by obtain ⟨st, ok, C, M⟩ := R; exact u_3 (xs := xs) ok C M b
  | 4 => by obtain ⟨st, ok, C, M⟩ := R; exact u_4 (xs := xs) ok C M b
  | 5 => by obtain ⟨st, ok, C, M⟩ := R; exact u_5 (xs := xs) ok C M b
  | 6 => by obtain ⟨st, ok, C, M⟩ := R; exact u_6 (xs := xs) ok C M b
  | 7 => by obtain ⟨st, ok, C, M⟩ := R; exact u_7 (xs := xs) ok C M b
  | 8 => by obtain ⟨st, ok, C, M⟩ := R; exact u_8 (xs := xs) ok C M b
  | 9 => by obtain ⟨st, ok, C, M⟩ := R; exact u_9 (xs := xs) ok C M b
  | 10 => by obtain ⟨st, ok, C, M⟩ := R; exact u_10 (xs := xs) ok C M b
  | 11 => by obtain ⟨st, ok, C, M⟩ := R; exact u_11 (xs := xs) ok C M b
  | 12 => by obtain ⟨st, ok, C, M⟩ := R; exact u_12 (xs := xs) ok C M b
  | 13 => by obtain ⟨st, ok, C, M⟩ := R; exact u_13 (xs := xs) ok C M b
  | 14 => by obtain ⟨st, ok, C, M⟩ := R; exact u_14 (xs := xs) ok C M b
  | 15 => by obtain ⟨st, ok, C, M⟩ := R; exact u_15 (xs := xs) ok C M b
  | 16 => by obtain ⟨st, ok, C, M⟩ := R; exact u_16 (xs := xs) ok C M b
  | 17 => by obtain ⟨st, ok, C, M⟩ := R; exact u_17 (xs := xs) ok C M b
  | 18 => by obtain ⟨st, ok, C, M⟩ := R; exact u_18 (xs := xs) ok C M b
  | 19 => by obtain ⟨st, ok, C, M⟩ := R; exact u_19 (xs := xs) ok C M b
  | 20 => by obtain ⟨st, ok, C, M⟩ := R; exact u_20 (xs := xs) ok C M b
  | 21 => by obtain ⟨st, ok, C, M⟩ := R; exact u_21 (xs := xs) ok C M b
  | 22 => by obtain ⟨st, ok, C, M⟩ := R; exact u_22 (xs := xs) ok C M b
  | 23 => by obtain ⟨st, ok, C, M⟩ := R; exact u_23 (xs := xs) ok C M b
  | 24 => by obtain ⟨st, ok, C, M⟩ := R; exact u_24 (xs := xs) ok C M b
  | 25 => by obtain ⟨st, ok, C, M⟩ := R; exact u_25 (xs := xs) ok C M b
  | 26 => by obtain ⟨st, ok, C, M⟩ := R; exact u_26 (xs := xs) ok C M b
  | 27 => by obtain ⟨st, ok, C, M⟩ := R; exact u_27 (xs := xs) ok C M b
  | 28 => by obtain ⟨st, ok, C, M⟩ := R; exact u_28 (xs := xs) ok C M b
  | 29 => by obtain ⟨st, ok, C, M⟩ := R; exact u_29 (xs := xs) ok C M b
  | 30 => by obtain ⟨st, ok, C, M⟩ := R; exact u_30 (xs := xs) ok C M b
  | 31 => by obtain ⟨st, ok, C, M⟩ := R; exact u_31 (xs := xs) ok C M b
  | 32 => by obtain ⟨st, ok, C, M⟩ := R; exact u_32 (xs := xs) ok C M b
  | 33 => by obtain ⟨st, ok, C, M⟩ := R; exact u_33 (xs := xs) ok C M b
  | 34 => by obtain ⟨st, ok, C, M⟩ := R; exact u_34 (xs := xs) ok C M b
  | 35 => by obtain ⟨st, ok, C, M⟩ := R; exact u_35 (xs := xs) ok C M b
  | 36 => by obtain ⟨st, ok, C, M⟩ := R; exact u_36 (xs := xs) ok C M b
  | 37 => by obtain ⟨st, ok, C, M⟩ := R; exact u_37 (xs := xs) ok C M b
  | 38 => by obtain ⟨st, ok, C, M⟩ := R; exact u_38 (xs := xs) ok C M b
  | 39 => by obtain ⟨st, ok, C, M⟩ := R; exact u_39 (xs := xs) ok C M b
  | 40 => by obtain ⟨st, ok, C, M⟩ := R; exact u_40 (xs := xs) ok C M b
  | 41 => by obtain ⟨st, ok, C, M⟩ := R; exact u_41 (xs := xs) ok C M b
  | 42 => by obtain ⟨st, ok, C, M⟩ := R; exact u_42 (xs := xs) ok C M b
  | z + 43 => ⟨h, rfl, R⟩
end TJS
