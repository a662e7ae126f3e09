noncomputable def F_J9_min_7cf53 (x0 : Int32) (x1 : Int32) : Option Int32 :=
  if x1 < x0 then (some x1) else (some x0)
theorem C_J9_min_7cf53 {X : dm_X} {x0 : Int32} {x1 : Int32} {h : am_H} {d : dm_D} {a : Int32} (e : F_J9_min_7cf53 x0 x1 = some a) : dm_Mx X yJ9_min_7cf53 cJ9_min_7cf53 2 (some .int) 0 0 [am_i x0, am_i x1] h d (some (am_i a)) h d := by
  refine dm_M.ofx (A := [some (am_i x0), some (am_i x1)]) (by decide +kernel) rfl (ble rfl) (fun Q hQ => ?_)
  have H : wp (F_J9_min_7cf53 x0 x1) (fun a => Q (some (am_i a)) h d) := ⟨_, e, hQ⟩
  unfold F_J9_min_7cf53 at H
  refine ql_i0 dJ9_min_7cf53_0 ?_
  refine ql_i1 dJ9_min_7cf53_1 ?_
  refine dr_ic_gt 9 dJ9_min_7cf53_2 (by decide) (fun c1 => ?_) (fun c1 => ?_)
  · replace H := wp_t c1 H
    refine ql_i1 dJ9_min_7cf53_9 ?_
    replace H := wp_s H
    exact dr_iret dJ9_min_7cf53_10 rfl rfl H
  · replace H := wp_f c1 H
    refine ql_i0 dJ9_min_7cf53_5 ?_
    refine dr_goto 10 dJ9_min_7cf53_6 (by decide) ?_
    replace H := wp_s H
    exact dr_iret dJ9_min_7cf53_10 rfl rfl H
noncomputable def F_Jx4a65c_isEmpty_aae02 (X : dm_X) (q0 : am_G × Nat) (d : dm_D) : Option Int32 :=
  (dm_fi d q0 16 2).bind (fun a1 => if a1 = 0 then (some (iI (1))) else (some (iI (0))))
theorem C_Jx4a65c_isEmpty_aae02 {X : dm_X} {q0 : am_G × Nat} {h : am_H} {d : dm_D} {a : Int32} (e : F_Jx4a65c_isEmpty_aae02 X q0 d = some a) : dm_Mx X yJx4a65c_isEmpty_aae02 cJx4a65c_isEmpty_aae02 1 (some .boolean) 0 0 [.inr q0] h d (some (am_i a)) h d := by
  refine dm_M.ofx (A := [some (.inr q0)]) (by decide +kernel) rfl (ble rfl) (fun Q hQ => ?_)
  have H : wp (F_Jx4a65c_isEmpty_aae02 X q0 d) (fun a => Q (some (am_i a)) h d) := ⟨_, e, hQ⟩
  unfold F_Jx4a65c_isEmpty_aae02 at H
  refine ql_a0 dJx4a65c_isEmpty_aae02_0 ?_
  obtain ⟨a1, e1, H⟩ := wp_b H
  refine dr_getI dJx4a65c_isEmpty_aae02_1 fg_Jx4a65c_48 e1 ?_
  refine dr_if_ne 11 dJx4a65c_isEmpty_aae02_4 (by decide) (fun c1 => ?_) (fun c1 => ?_)
  · replace H := wp_f c1 H
    refine dr_iconst (iI (0)) dJx4a65c_isEmpty_aae02_11 rfl ?_
    replace H := wp_s H
    exact dr_iret dJx4a65c_isEmpty_aae02_12 rfl rfl H
  · replace H := wp_t c1 H
    refine dr_iconst (iI (1)) dJx4a65c_isEmpty_aae02_7 rfl ?_
    refine dr_goto 12 dJx4a65c_isEmpty_aae02_8 (by decide) ?_
    replace H := wp_s H
    exact dr_iret dJx4a65c_isEmpty_aae02_12 rfl rfl H
noncomputable def F_Jx4a65c_size_8abf5 (X : dm_X) (q0 : am_G × Nat) (d : dm_D) : Option Int32 :=
  (dm_fi d q0 16 2).bind (fun a1 => some a1)
theorem C_Jx4a65c_size_8abf5 {X : dm_X} {q0 : am_G × Nat} {h : am_H} {d : dm_D} {a : Int32} (e : F_Jx4a65c_size_8abf5 X q0 d = some a) : dm_Mx X yJx4a65c_size_8abf5 cJx4a65c_size_8abf5 1 (some .int) 0 0 [.inr q0] h d (some (am_i a)) h d := by
  refine dm_M.ofx (A := [some (.inr q0)]) (by decide +kernel) rfl (ble rfl) (fun Q hQ => ?_)
  have H : wp (F_Jx4a65c_size_8abf5 X q0 d) (fun a => Q (some (am_i a)) h d) := ⟨_, e, hQ⟩
  unfold F_Jx4a65c_size_8abf5 at H
  refine ql_a0 dJx4a65c_size_8abf5_0 ?_
  obtain ⟨a1, e1, H⟩ := wp_b H
  refine dr_getI dJx4a65c_size_8abf5_1 fg_Jx4a65c_48 e1 ?_
  replace H := wp_s H
  exact dr_iret dJx4a65c_size_8abf5_4 rfl rfl H
noncomputable def F_Jx4a65c_elementData_915e3 (X : dm_X) (q0 : am_G × Nat) (x1 : Int32) (d : dm_D) : Option ((am_G × Nat)) :=
  (dm_fr d q0 16 1).bind (fun w1 => (dm_lr d w1 x1).bind (fun w2 => some w2))
theorem C_Jx4a65c_elementData_915e3 {X : dm_X} {q0 : am_G × Nat} {x1 : Int32} {h : am_H} {d : dm_D} {a : (am_G × Nat)} (e : F_Jx4a65c_elementData_915e3 X q0 x1 d = some a) : dm_Mx X yJx4a65c_elementData_915e3 cJx4a65c_elementData_915e3 2 (some (.object "java/lang/Object")) 0 0 [.inr q0, am_i x1] h d (some (.inr a)) h d := by
  refine dm_M.ofx (A := [some (.inr q0), some (am_i x1)]) (by decide +kernel) rfl (ble rfl) (fun Q hQ => ?_)
  have H : wp (F_Jx4a65c_elementData_915e3 X q0 x1 d) (fun a => Q (some (.inr a)) h d) := ⟨_, e, hQ⟩
  unfold F_Jx4a65c_elementData_915e3 at H
  refine ql_a0 dJx4a65c_elementData_915e3_0 ?_
  obtain ⟨w1, e1, H⟩ := wp_b H
  refine dr_getR dJx4a65c_elementData_915e3_1 fg_Jx4a65c_9 e1 ?_
  refine ql_i1 dJx4a65c_elementData_915e3_4 ?_
  obtain ⟨w2, e2, H⟩ := wp_b H
  refine dr_aald dJx4a65c_elementData_915e3_5 e2 ?_
  replace H := wp_s H
  exact dr_aret dJx4a65c_elementData_915e3_6 rfl (Or.inl ⟨_, rfl⟩) H
noncomputable def F_Jx4a65c_get_915e3 (X : dm_X) (q0 : am_G × Nat) (x1 : Int32) (d : dm_D) : Option ((am_G × Nat)) :=
  (dm_fi d q0 16 2).bind (fun a1 => (F_J15_checkIndex_7cf53 x1 a1).bind (fun a2 => (dm_rk d q0 16).bind (fun u1 => (F_Jx4a65c_elementData_915e3 X q0 x1 d).bind (fun a3 => some a3))))
theorem C_Jx4a65c_get_915e3 {X : dm_X} {q0 : am_G × Nat} {x1 : Int32} {h : am_H} {d : dm_D} {a : (am_G × Nat)} (e : F_Jx4a65c_get_915e3 X q0 x1 d = some a) : dm_Mx X yJx4a65c_get_915e3 cJx4a65c_get_915e3 2 (some (.object "java/lang/Object")) 2 51 [.inr q0, am_i x1] h d (some (.inr a)) h d := by
  refine dm_M.ofx (A := [some (.inr q0), some (am_i x1)]) (by decide +kernel) rfl (ble rfl) (fun Q hQ => ?_)
  have H : wp (F_Jx4a65c_get_915e3 X q0 x1 d) (fun a => Q (some (.inr a)) h d) := ⟨_, e, hQ⟩
  unfold F_Jx4a65c_get_915e3 at H
  refine ql_i1 dJx4a65c_get_915e3_0 ?_
  refine ql_a0 dJx4a65c_get_915e3_1 ?_
  obtain ⟨a1, e1, H⟩ := wp_b H
  refine dr_getI dJx4a65c_get_915e3_2 fg_Jx4a65c_48 e1 ?_
  obtain ⟨a2, e2, H⟩ := wp_b H
  refine dc_S2i dJx4a65c_get_915e3_5 ml_Jx4a65c_118 mc_J15_checkIndex_7cf53 (C_J15_checkIndex_7cf53 e2) rfl rfl rfl ?_
  refine dr_pop dJx4a65c_get_915e3_8 trivial ?_
  refine ql_a0 dJx4a65c_get_915e3_9 ?_
  refine ql_i1 dJx4a65c_get_915e3_10 ?_
  obtain ⟨u1, e4, H⟩ := wp_b H
  obtain ⟨a3, e3, H⟩ := wp_b H
  refine dc_V1r (C := (RJx4a65c, TJx4a65c, 3)) dJx4a65c_get_915e3_11 ml_Jx4a65c_123 mc_Jx4a65c_elementData_915e3 (C_Jx4a65c_elementData_915e3 e3) (dm_rk_some e4) rfl rfl rfl rfl rfl ?_
  replace H := wp_s H
  exact dr_aret dJx4a65c_get_915e3_14 rfl (Or.inl ⟨_, rfl⟩) H
noncomputable def F_Jx4a65c_fastRemove_b59b0 (X : dm_X) (q0 : am_G × Nat) (q1 : am_G × Nat) (x2 : Int32) (d : dm_D) : Option dm_D :=
  (dm_fi d q0 16 0).bind (fun a1 => (dm_pu d q0 16 0 (am_i (a1 + (iI (1))))).bind (fun d1 => (dm_fi d1 q0 16 2).bind (fun a2 => if (a2 - (iI (1))) ≤ x2 then ((dm_pu d1 q0 16 2 (am_i (a2 - (iI (1))))).bind (fun d2 => (dm_wr d2 q1 (a2 - (iI (1))) none).bind (fun d3 => some d3))) else ((dm_cr d1 q1 (x2 + (iI (1))) q1 x2 ((a2 - (iI (1))) - x2)).bind (fun d2 => (dm_pu d2 q0 16 2 (am_i (a2 - (iI (1))))).bind (fun d3 => (dm_wr d3 q1 (a2 - (iI (1))) none).bind (fun d4 => some d4)))))))
theorem C_Jx4a65c_fastRemove_b59b0 {X : dm_X} {q0 : am_G × Nat} {q1 : am_G × Nat} {x2 : Int32} {h : am_H} {d : dm_D} {a : dm_D} (e : F_Jx4a65c_fastRemove_b59b0 X q0 q1 x2 d = some a) : dm_Mx X yJx4a65c_fastRemove_b59b0 cJx4a65c_fastRemove_b59b0 4 (none) 1 26 [.inr q0, .inr q1, am_i x2] h d none h a := by
  refine dm_M.ofx (A := [some (.inr q0), some (.inr q1), some (am_i x2), none]) (by decide +kernel) rfl (ble rfl) (fun Q hQ => ?_)
  have H : wp (F_Jx4a65c_fastRemove_b59b0 X q0 q1 x2 d) (fun a => Q none h a) := ⟨_, e, hQ⟩
  unfold F_Jx4a65c_fastRemove_b59b0 at H
  refine ql_a0 dJx4a65c_fastRemove_b59b0_0 ?_
  refine dr_dup dJx4a65c_fastRemove_b59b0_1 trivial ?_
  obtain ⟨a1, e1, H⟩ := wp_b H
  refine dr_getM dJx4a65c_fastRemove_b59b0_2 fs_Jx4a65c_63 fs_mod e1 ?_
  refine dr_iconst (iI (1)) dJx4a65c_fastRemove_b59b0_5 rfl ?_
  refine dr_iadd dJx4a65c_fastRemove_b59b0_6 ?_
  obtain ⟨d1, e2, H⟩ := wp_b H
  refine dr_putM dJx4a65c_fastRemove_b59b0_7 fs_Jx4a65c_63 fs_mod e2 ?_
  refine ql_a0 dJx4a65c_fastRemove_b59b0_10 ?_
  obtain ⟨a2, e3, H⟩ := wp_b H
  refine dr_getI dJx4a65c_fastRemove_b59b0_11 fg_Jx4a65c_48 e3 ?_
  refine dr_iconst (iI (1)) dJx4a65c_fastRemove_b59b0_14 rfl ?_
  refine dr_isub dJx4a65c_fastRemove_b59b0_15 ?_
  refine dr_dup dJx4a65c_fastRemove_b59b0_16 trivial ?_
  refine qs_i3 dJx4a65c_fastRemove_b59b0_17 rfl trivial ?_
  refine ql_i2 dJx4a65c_fastRemove_b59b0_18 ?_
  refine dr_ic_le 34 dJx4a65c_fastRemove_b59b0_19 (by decide) (fun c1 => ?_) (fun c1 => ?_)
  · replace H := wp_t c1 H
    refine ql_a1 dJx4a65c_fastRemove_b59b0_34 ?_
    refine ql_a0 dJx4a65c_fastRemove_b59b0_35 ?_
    refine ql_i3 dJx4a65c_fastRemove_b59b0_36 ?_
    refine dr_dup_x1 dJx4a65c_fastRemove_b59b0_37 rfl rfl ?_
    obtain ⟨d2, e4, H⟩ := wp_b H
    refine dr_putI dJx4a65c_fastRemove_b59b0_38 fg_Jx4a65c_48 rfl rfl e4 ?_
    refine dr_null dJx4a65c_fastRemove_b59b0_41 ?_
    obtain ⟨d3, e5, H⟩ := wp_b H
    refine dr_aastN dJx4a65c_fastRemove_b59b0_42 e5 ?_
    replace H := wp_s H
    exact dr_vret dJx4a65c_fastRemove_b59b0_43 rfl H
  · replace H := wp_f c1 H
    refine ql_a1 dJx4a65c_fastRemove_b59b0_22 ?_
    refine ql_i2 dJx4a65c_fastRemove_b59b0_23 ?_
    refine dr_iconst (iI (1)) dJx4a65c_fastRemove_b59b0_24 rfl ?_
    refine dr_iadd dJx4a65c_fastRemove_b59b0_25 ?_
    refine ql_a1 dJx4a65c_fastRemove_b59b0_26 ?_
    refine ql_i2 dJx4a65c_fastRemove_b59b0_27 ?_
    refine ql_i3 dJx4a65c_fastRemove_b59b0_28 ?_
    refine ql_i2 dJx4a65c_fastRemove_b59b0_29 ?_
    refine dr_isub dJx4a65c_fastRemove_b59b0_30 ?_
    obtain ⟨d2, e4, H⟩ := wp_b H
    refine dr_copyR dJx4a65c_fastRemove_b59b0_31 cp_Jx4a65c_112 rfl rfl rfl e4 ?_
    refine ql_a1 dJx4a65c_fastRemove_b59b0_34 ?_
    refine ql_a0 dJx4a65c_fastRemove_b59b0_35 ?_
    refine ql_i3 dJx4a65c_fastRemove_b59b0_36 ?_
    refine dr_dup_x1 dJx4a65c_fastRemove_b59b0_37 rfl rfl ?_
    obtain ⟨d3, e5, H⟩ := wp_b H
    refine dr_putI dJx4a65c_fastRemove_b59b0_38 fg_Jx4a65c_48 rfl rfl e5 ?_
    refine dr_null dJx4a65c_fastRemove_b59b0_41 ?_
    obtain ⟨d4, e6, H⟩ := wp_b H
    refine dr_aastN dJx4a65c_fastRemove_b59b0_42 e6 ?_
    replace H := wp_s H
    exact dr_vret dJx4a65c_fastRemove_b59b0_43 rfl H
noncomputable def F_Jx4a65c_remove_915e3 (X : dm_X) (q0 : am_G × Nat) (x1 : Int32) (d : dm_D) : Option ((am_G × Nat) × dm_D) :=
  (dm_fi d q0 16 2).bind (fun a1 => (F_J15_checkIndex_7cf53 x1 a1).bind (fun a2 => (dm_fr d q0 16 1).bind (fun w1 => (dm_lr d w1 x1).bind (fun w2 => (dm_rk d q0 16).bind (fun u1 => (F_Jx4a65c_fastRemove_b59b0 X q0 w1 x1 d).bind (fun a3 => some (w2, a3)))))))
theorem C_Jx4a65c_remove_915e3 {X : dm_X} {q0 : am_G × Nat} {x1 : Int32} {h : am_H} {d : dm_D} {a : (am_G × Nat) × dm_D} (e : F_Jx4a65c_remove_915e3 X q0 x1 d = some a) : dm_Mx X yJx4a65c_remove_915e3 cJx4a65c_remove_915e3 4 (some (.object "java/lang/Object")) 2 51 [.inr q0, am_i x1] h d (some (.inr a.1)) h a.2 := by
  refine dm_M.ofx (A := [some (.inr q0), some (am_i x1), none, none]) (by decide +kernel) rfl (ble rfl) (fun Q hQ => ?_)
  have H : wp (F_Jx4a65c_remove_915e3 X q0 x1 d) (fun a => Q (some (.inr a.1)) h a.2) := ⟨_, e, hQ⟩
  unfold F_Jx4a65c_remove_915e3 at H
  refine ql_i1 dJx4a65c_remove_915e3_0 ?_
  refine ql_a0 dJx4a65c_remove_915e3_1 ?_
  obtain ⟨a1, e1, H⟩ := wp_b H
  refine dr_getI dJx4a65c_remove_915e3_2 fg_Jx4a65c_48 e1 ?_
  obtain ⟨a2, e2, H⟩ := wp_b H
  refine dc_S2i dJx4a65c_remove_915e3_5 ml_Jx4a65c_118 mc_J15_checkIndex_7cf53 (C_J15_checkIndex_7cf53 e2) rfl rfl rfl ?_
  refine dr_pop dJx4a65c_remove_915e3_8 trivial ?_
  refine ql_a0 dJx4a65c_remove_915e3_9 ?_
  obtain ⟨w1, e3, H⟩ := wp_b H
  refine dr_getR dJx4a65c_remove_915e3_10 fg_Jx4a65c_9 e3 ?_
  refine qs_a2 dJx4a65c_remove_915e3_13 rfl trivial ?_
  refine ql_a2 dJx4a65c_remove_915e3_14 ?_
  refine ql_i1 dJx4a65c_remove_915e3_15 ?_
  obtain ⟨w2, e4, H⟩ := wp_b H
  refine dr_aald dJx4a65c_remove_915e3_16 e4 ?_
  refine qs_a3 dJx4a65c_remove_915e3_17 rfl trivial ?_
  refine ql_a0 dJx4a65c_remove_915e3_18 ?_
  refine ql_a2 dJx4a65c_remove_915e3_19 ?_
  refine ql_i1 dJx4a65c_remove_915e3_20 ?_
  obtain ⟨u1, e6, H⟩ := wp_b H
  obtain ⟨a3, e5, H⟩ := wp_b H
  refine dc_V2v (C := (RJx4a65c, TJx4a65c, 3)) dJx4a65c_remove_915e3_21 ml_Jx4a65c_144 mc_Jx4a65c_fastRemove_b59b0 (C_Jx4a65c_fastRemove_b59b0 e5) (dm_rk_some e6) rfl rfl rfl rfl rfl ?_
  refine ql_a3 dJx4a65c_remove_915e3_24 ?_
  replace H := wp_s H
  exact dr_aret dJx4a65c_remove_915e3_25 rfl (Or.inl ⟨_, rfl⟩) H
noncomputable def F_Jx35411_init_45d68 (X : dm_X) (q0 : am_G × Nat) (q1 : am_G × Nat) (d : dm_D) : Option dm_D :=
  (dm_pu d q0 15 3 (.inr q1)).bind (fun d1 => (dm_pu d1 q0 15 1 (am_i (iI (-1)))).bind (fun d2 => (dm_fr d2 q0 15 3).bind (fun w1 => (dm_fi d2 w1 16 0).bind (fun a1 => (dm_pu d2 q0 15 2 (am_i a1)).bind (fun d3 => some d3)))))
theorem C_Jx35411_init_45d68 {X : dm_X} {q0 : am_G × Nat} {q1 : am_G × Nat} {h : am_H} {d : dm_D} {a : dm_D} (e : F_Jx35411_init_45d68 X q0 q1 d = some a) : dm_Mx X yJx35411_init_45d68 cJx35411_init_45d68 2 (none) 1 20 [.inr q0, .inr q1] h d none h a := by
  refine dm_M.ofx (A := [some (.inr q0), some (.inr q1)]) (by decide +kernel) rfl (ble rfl) (fun Q hQ => ?_)
  have H : wp (F_Jx35411_init_45d68 X q0 q1 d) (fun a => Q none h a) := ⟨_, e, hQ⟩
  unfold F_Jx35411_init_45d68 at H
  refine ql_a0 dJx35411_init_45d68_0 ?_
  refine ql_a1 dJx35411_init_45d68_1 ?_
  obtain ⟨d1, e1, H⟩ := wp_b H
  refine dr_putFR (ci := 15) (k := 3) (r := (RJx35411, TJx35411, 4)) dJx35411_init_45d68_2 rfl (by decide) rfl pf_A fs_Jx35411_1 rfl rfl (fun _ => ⟨rfl, rfl⟩) e1 ?_
  refine ql_a0 dJx35411_init_45d68_5 ?_
  refine dr_objI dJx35411_init_45d68_6 ob_Jx35411_7 ob_0.1 ob_0.2 rfl rfl rfl ?_
  refine ql_a0 dJx35411_init_45d68_9 ?_
  refine dr_iconst (iI (-1)) dJx35411_init_45d68_10 rfl ?_
  obtain ⟨d2, e2, H⟩ := wp_b H
  refine dr_putI dJx35411_init_45d68_11 fg_Jx35411_13 rfl rfl e2 ?_
  refine ql_a0 dJx35411_init_45d68_14 ?_
  refine ql_a0 dJx35411_init_45d68_15 ?_
  obtain ⟨w1, e3, H⟩ := wp_b H
  refine dr_getR dJx35411_init_45d68_16 fg_Jx35411_1 e3 ?_
  obtain ⟨a1, e4, H⟩ := wp_b H
  refine dr_getM dJx35411_init_45d68_19 fs_Jx35411_17 fs_mod e4 ?_
  obtain ⟨d3, e5, H⟩ := wp_b H
  refine dr_putI dJx35411_init_45d68_22 fg_Jx35411_22 rfl rfl e5 ?_
  replace H := wp_s H
  exact dr_vret dJx35411_init_45d68_25 rfl H
noncomputable def F_Jx4a65c_iterator_32c93 (X : dm_X) (q0 : am_G × Nat) (d : dm_D) : Option ((am_G × Nat) × dm_D) :=
  (dm_no d 15).bind (fun d1 => (F_Jx35411_init_45d68 X (.inl 0, d.1) q0 d1).bind (fun a1 => some ((.inl 0, d.1), a1)))
theorem C_Jx4a65c_iterator_32c93 {X : dm_X} {q0 : am_G × Nat} {h : am_H} {d : dm_D} {a : (am_G × Nat) × dm_D} (e : F_Jx4a65c_iterator_32c93 X q0 d = some a) : dm_Mx X yJx4a65c_iterator_32c93 cJx4a65c_iterator_32c93 1 (some (.object "java/util/Iterator")) 2 41 [.inr q0] h d (some (.inr a.1)) h a.2 := by
  refine dm_M.ofx (A := [some (.inr q0)]) (by decide +kernel) rfl (ble rfl) (fun Q hQ => ?_)
  have H : wp (F_Jx4a65c_iterator_32c93 X q0 d) (fun a => Q (some (.inr a.1)) h a.2) := ⟨_, e, hQ⟩
  unfold F_Jx4a65c_iterator_32c93 at H
  obtain ⟨d1, e1, H⟩ := wp_b H
  refine dr_new dJx4a65c_iterator_32c93_0 rfl nw_Jx4a65c_267.1 nw_Jx4a65c_267.2.1 nw_Jx4a65c_267.2.2 rfl nf_15 e1 ?_
  refine dr_dup dJx4a65c_iterator_32c93_3 trivial ?_
  refine ql_a0 dJx4a65c_iterator_32c93_4 ?_
  obtain ⟨a1, e2, H⟩ := wp_b H
  refine dc_I1v dJx4a65c_iterator_32c93_5 ml_Jx4a65c_269 mi_Jx35411_init_45d68 (C_Jx35411_init_45d68 e2) rfl rfl rfl ?_
  replace H := wp_s H
  exact dr_aret dJx4a65c_iterator_32c93_8 rfl (Or.inl ⟨_, rfl⟩) H
noncomputable def F_Jx35411_hasNext_aae02 (X : dm_X) (q0 : am_G × Nat) (d : dm_D) : Option Int32 :=
  (dm_fi d q0 15 0).bind (fun a1 => (dm_fr d q0 15 3).bind (fun w1 => (dm_fi d w1 16 2).bind (fun a2 => if a1 = a2 then (some (iI (0))) else (some (iI (1))))))
theorem C_Jx35411_hasNext_aae02 {X : dm_X} {q0 : am_G × Nat} {h : am_H} {d : dm_D} {a : Int32} (e : F_Jx35411_hasNext_aae02 X q0 d = some a) : dm_Mx X yJx35411_hasNext_aae02 cJx35411_hasNext_aae02 1 (some .boolean) 0 0 [.inr q0] h d (some (am_i a)) h d := by
  refine dm_M.ofx (A := [some (.inr q0)]) (by decide +kernel) rfl (ble rfl) (fun Q hQ => ?_)
  have H : wp (F_Jx35411_hasNext_aae02 X q0 d) (fun a => Q (some (am_i a)) h d) := ⟨_, e, hQ⟩
  unfold F_Jx35411_hasNext_aae02 at H
  refine ql_a0 dJx35411_hasNext_aae02_0 ?_
  obtain ⟨a1, e1, H⟩ := wp_b H
  refine dr_getI dJx35411_hasNext_aae02_1 fg_Jx35411_25 e1 ?_
  refine ql_a0 dJx35411_hasNext_aae02_4 ?_
  obtain ⟨w1, e2, H⟩ := wp_b H
  refine dr_getR dJx35411_hasNext_aae02_5 fg_Jx35411_1 e2 ?_
  obtain ⟨a2, e3, H⟩ := wp_b H
  refine dr_getI dJx35411_hasNext_aae02_8 fg_Jx35411_28 e3 ?_
  refine dr_ic_eq 18 dJx35411_hasNext_aae02_11 (by decide) (fun c1 => ?_) (fun c1 => ?_)
  · replace H := wp_t c1 H
    refine dr_iconst (iI (0)) dJx35411_hasNext_aae02_18 rfl ?_
    replace H := wp_s H
    exact dr_iret dJx35411_hasNext_aae02_19 rfl rfl H
  · replace H := wp_f c1 H
    refine dr_iconst (iI (1)) dJx35411_hasNext_aae02_14 rfl ?_
    refine dr_goto 19 dJx35411_hasNext_aae02_15 (by decide) ?_
    replace H := wp_s H
    exact dr_iret dJx35411_hasNext_aae02_19 rfl rfl H
noncomputable def F_Jx35411_checkForComodification_da8c8 (X : dm_X) (q0 : am_G × Nat) (d : dm_D) : Option Unit :=
  (dm_fr d q0 15 3).bind (fun w1 => (dm_fi d w1 16 0).bind (fun a1 => (dm_fi d q0 15 2).bind (fun a2 => if a1 = a2 then (some ()) else (none))))
theorem C_Jx35411_checkForComodification_da8c8 {X : dm_X} {q0 : am_G × Nat} {h : am_H} {d : dm_D} {a : Unit} (e : F_Jx35411_checkForComodification_da8c8 X q0 d = some a) : dm_Mx X yJx35411_checkForComodification_da8c8 cJx35411_checkForComodification_da8c8 1 (none) 0 0 [.inr q0] h d none h d := by
  refine dm_M.ofx (A := [some (.inr q0)]) (by decide +kernel) rfl (ble rfl) (fun Q hQ => ?_)
  have H : wp (F_Jx35411_checkForComodification_da8c8 X q0 d) (fun _ => Q none h d) := ⟨_, e, hQ⟩
  unfold F_Jx35411_checkForComodification_da8c8 at H
  refine ql_a0 dJx35411_checkForComodification_da8c8_0 ?_
  obtain ⟨w1, e1, H⟩ := wp_b H
  refine dr_getR dJx35411_checkForComodification_da8c8_1 fg_Jx35411_1 e1 ?_
  obtain ⟨a1, e2, H⟩ := wp_b H
  refine dr_getM dJx35411_checkForComodification_da8c8_4 fs_Jx35411_17 fs_mod e2 ?_
  refine ql_a0 dJx35411_checkForComodification_da8c8_7 ?_
  obtain ⟨a2, e3, H⟩ := wp_b H
  refine dr_getI dJx35411_checkForComodification_da8c8_8 fg_Jx35411_22 e3 ?_
  refine dr_ic_eq 22 dJx35411_checkForComodification_da8c8_11 (by decide) (fun c1 => ?_) (fun c1 => ?_)
  · replace H := wp_t c1 H
    replace H := wp_s H
    exact dr_vret dJx35411_checkForComodification_da8c8_22 rfl H
  · replace H := wp_f c1 H
    exact (wp_n H).elim
noncomputable def F_Jx35411_next_0502b (X : dm_X) (q0 : am_G × Nat) (d : dm_D) : Option ((am_G × Nat) × dm_D) :=
  (dm_rk d q0 15).bind (fun u1 => (F_Jx35411_checkForComodification_da8c8 X q0 d).bind (fun a1 => (dm_fi d q0 15 0).bind (fun a2 => (dm_fr d q0 15 3).bind (fun w1 => (dm_fi d w1 16 2).bind (fun a3 => if a2 < a3 then ((dm_fr d q0 15 3).bind (fun w2 => (dm_fr d w2 16 1).bind (fun w3 => (dm_ln X d w3).bind (fun a4 => if a2 < a4 then ((dm_pu d q0 15 0 (am_i (a2 + (iI (1))))).bind (fun d1 => (dm_pu d1 q0 15 1 (am_i a2)).bind (fun d2 => (dm_lr d2 w3 a2).bind (fun w4 => some (w4, d2))))) else (none))))) else (none))))))
theorem C_Jx35411_next_0502b {X : dm_X} {q0 : am_G × Nat} {h : am_H} {d : dm_D} {a : (am_G × Nat) × dm_D} (e : F_Jx35411_next_0502b X q0 d = some a) : dm_Mx X yJx35411_next_0502b cJx35411_next_0502b 3 (some (.object "java/lang/Object")) 1 20 [.inr q0] h d (some (.inr a.1)) h a.2 := by
  refine dm_M.ofx (A := [some (.inr q0), none, none]) (by decide +kernel) rfl (ble rfl) (fun Q hQ => ?_)
  have H : wp (F_Jx35411_next_0502b X q0 d) (fun a => Q (some (.inr a.1)) h a.2) := ⟨_, e, hQ⟩
  unfold F_Jx35411_next_0502b at H
  refine ql_a0 dJx35411_next_0502b_0 ?_
  obtain ⟨u1, e2, H⟩ := wp_b H
  obtain ⟨a1, e1, H⟩ := wp_b H
  refine dc_V0v (C := (RJx35411, TJx35411, 4)) dJx35411_next_0502b_1 ml_Jx35411_31 mc_Jx35411_checkForComodification_da8c8 (C_Jx35411_checkForComodification_da8c8 e1) (dm_rk_some e2) rfl rfl rfl rfl rfl ?_
  refine ql_a0 dJx35411_next_0502b_4 ?_
  obtain ⟨a2, e3, H⟩ := wp_b H
  refine dr_getI dJx35411_next_0502b_5 fg_Jx35411_25 e3 ?_
  refine qs_i1 dJx35411_next_0502b_8 rfl trivial ?_
  refine ql_i1 dJx35411_next_0502b_9 ?_
  refine ql_a0 dJx35411_next_0502b_10 ?_
  obtain ⟨w1, e4, H⟩ := wp_b H
  refine dr_getR dJx35411_next_0502b_11 fg_Jx35411_1 e4 ?_
  obtain ⟨a3, e5, H⟩ := wp_b H
  refine dr_getI dJx35411_next_0502b_14 fg_Jx35411_28 e5 ?_
  refine dr_ic_lt 28 dJx35411_next_0502b_17 (by decide) (fun c1 => ?_) (fun c1 => ?_)
  · replace H := wp_t c1 H
    refine ql_a0 dJx35411_next_0502b_28 ?_
    obtain ⟨w2, e6, H⟩ := wp_b H
    refine dr_getR dJx35411_next_0502b_29 fg_Jx35411_1 e6 ?_
    obtain ⟨w3, e7, H⟩ := wp_b H
    refine dr_getR dJx35411_next_0502b_32 fg_Jx35411_37 e7 ?_
    refine qs_a2 dJx35411_next_0502b_35 rfl trivial ?_
    refine ql_i1 dJx35411_next_0502b_36 ?_
    refine ql_a2 dJx35411_next_0502b_37 ?_
    obtain ⟨a4, e8, H⟩ := wp_b H
    refine dr_len dJx35411_next_0502b_38 e8 ?_
    refine dr_ic_lt 50 dJx35411_next_0502b_39 (by decide) (fun c2 => ?_) (fun c2 => ?_)
    · replace H := wp_t c2 H
      refine ql_a0 dJx35411_next_0502b_50 ?_
      refine ql_i1 dJx35411_next_0502b_51 ?_
      refine dr_iconst (iI (1)) dJx35411_next_0502b_52 rfl ?_
      refine dr_iadd dJx35411_next_0502b_53 ?_
      obtain ⟨d1, e9, H⟩ := wp_b H
      refine dr_putI dJx35411_next_0502b_54 fg_Jx35411_25 rfl rfl e9 ?_
      refine ql_a2 dJx35411_next_0502b_57 ?_
      refine ql_a0 dJx35411_next_0502b_58 ?_
      refine ql_i1 dJx35411_next_0502b_59 ?_
      refine dr_dup_x1 dJx35411_next_0502b_60 rfl rfl ?_
      obtain ⟨d2, e10, H⟩ := wp_b H
      refine dr_putI dJx35411_next_0502b_61 fg_Jx35411_13 rfl rfl e10 ?_
      obtain ⟨w4, e11, H⟩ := wp_b H
      refine dr_aald dJx35411_next_0502b_64 e11 ?_
      replace H := wp_s H
      exact dr_aret dJx35411_next_0502b_65 rfl (Or.inl ⟨_, rfl⟩) H
    · replace H := wp_f c2 H
      exact (wp_n H).elim
  · replace H := wp_f c1 H
    exact (wp_n H).elim
noncomputable def F_J9_max_7cf53 (x0 : Int32) (x1 : Int32) : Option Int32 :=
  if x0 < x1 then (some x1) else (some x0)
theorem C_J9_max_7cf53 {X : dm_X} {x0 : Int32} {x1 : Int32} {h : am_H} {d : dm_D} {a : Int32} (e : F_J9_max_7cf53 x0 x1 = some a) : dm_Mx X yJ9_max_7cf53 cJ9_max_7cf53 2 (some .int) 0 0 [am_i x0, am_i x1] h d (some (am_i a)) h d := by
  refine dm_M.ofx (A := [some (am_i x0), some (am_i x1)]) (by decide +kernel) rfl (ble rfl) (fun Q hQ => ?_)
  have H : wp (F_J9_max_7cf53 x0 x1) (fun a => Q (some (am_i a)) h d) := ⟨_, e, hQ⟩
  unfold F_J9_max_7cf53 at H
  refine ql_i0 dJ9_max_7cf53_0 ?_
  refine ql_i1 dJ9_max_7cf53_1 ?_
  refine dr_ic_lt 9 dJ9_max_7cf53_2 (by decide) (fun c1 => ?_) (fun c1 => ?_)
  · replace H := wp_t c1 H
    refine ql_i1 dJ9_max_7cf53_9 ?_
    replace H := wp_s H
    exact dr_iret dJ9_max_7cf53_10 rfl rfl H
  · replace H := wp_f c1 H
    refine ql_i0 dJ9_max_7cf53_5 ?_
    refine dr_goto 10 dJ9_max_7cf53_6 (by decide) ?_
    replace H := wp_s H
    exact dr_iret dJ9_max_7cf53_10 rfl rfl H
noncomputable def F_J8_newLength_cabcc (x0 : Int32) (x1 : Int32) (x2 : Int32) : Option Int32 :=
  (F_J9_max_7cf53 x1 x2).bind (fun a1 => if (x0 + a1) ≤ (iI (0)) then (none) else (if (2147483639 : Int32) < (x0 + a1) then (none) else (some (x0 + a1))))
theorem C_J8_newLength_cabcc {X : dm_X} {x0 : Int32} {x1 : Int32} {x2 : Int32} {h : am_H} {d : dm_D} {a : Int32} (e : F_J8_newLength_cabcc x0 x1 x2 = some a) : dm_Mx X yJ8_newLength_cabcc cJ8_newLength_cabcc 4 (some .int) 1 21 [am_i x0, am_i x1, am_i x2] h d (some (am_i a)) h d := by
  refine dm_M.ofx (A := [some (am_i x0), some (am_i x1), some (am_i x2), none]) (by decide +kernel) rfl (ble rfl) (fun Q hQ => ?_)
  have H : wp (F_J8_newLength_cabcc x0 x1 x2) (fun a => Q (some (am_i a)) h d) := ⟨_, e, hQ⟩
  unfold F_J8_newLength_cabcc at H
  refine ql_i0 dJ8_newLength_cabcc_0 ?_
  refine ql_i1 dJ8_newLength_cabcc_1 ?_
  refine ql_i2 dJ8_newLength_cabcc_2 ?_
  obtain ⟨a1, e1, H⟩ := wp_b H
  refine dc_S2i dJ8_newLength_cabcc_3 ml_J8_194 mc_J9_max_7cf53 (C_J9_max_7cf53 e1) rfl rfl rfl ?_
  refine dr_iadd dJ8_newLength_cabcc_6 ?_
  refine qs_i3 dJ8_newLength_cabcc_7 rfl trivial ?_
  refine dr_iconst (iI (0)) dJ8_newLength_cabcc_8 rfl ?_
  refine ql_i3 dJ8_newLength_cabcc_9 ?_
  refine dr_ic_ge 21 dJ8_newLength_cabcc_10 (by decide) (fun c1 => ?_) (fun c1 => ?_)
  · replace H := wp_t c1 H
    refine ql_i0 dJ8_newLength_cabcc_21 ?_
    refine ql_i1 dJ8_newLength_cabcc_22 ?_
    exact (wp_n H).elim
  · replace H := wp_f c1 H
    refine ql_i3 dJ8_newLength_cabcc_13 ?_
    refine dr_ldc (2147483639) dJ8_newLength_cabcc_14 kc_J8_200 ?_
    refine dr_ic_gt 21 dJ8_newLength_cabcc_16 (by decide) (fun c2 => ?_) (fun c2 => ?_)
    · replace H := wp_t c2 H
      refine ql_i0 dJ8_newLength_cabcc_21 ?_
      refine ql_i1 dJ8_newLength_cabcc_22 ?_
      exact (wp_n H).elim
    · replace H := wp_f c2 H
      refine ql_i3 dJ8_newLength_cabcc_19 ?_
      replace H := wp_s H
      exact dr_iret dJ8_newLength_cabcc_20 rfl rfl H
noncomputable def F_J7_copyOf_6403c (X : dm_X) (q0 : am_G × Nat) (x1 : Int32) (d : dm_D) : Option ((am_G × Nat) × dm_D) :=
  (dm_nr d x1).bind (fun d1 => (dm_ln X d1 q0).bind (fun a1 => (F_J9_min_7cf53 a1 x1).bind (fun a2 => (dm_cr d1 q0 (iI (0)) (.inl 0, d.1) (iI (0)) a2).bind (fun d2 => some ((.inl 0, d.1), d2)))))
theorem C_J7_copyOf_6403c {X : dm_X} {q0 : am_G × Nat} {x1 : Int32} {h : am_H} {d : dm_D} {a : (am_G × Nat) × dm_D} (e : F_J7_copyOf_6403c X q0 x1 d = some a) : dm_Mx X yJ7_copyOf_6403c cJ7_copyOf_6403c 4 (some (.array (.object "java/lang/Object"))) 1 26 [.inr q0, am_i x1, .inr (.inl 4, 4)] h d (some (.inr a.1)) h a.2 := by
  refine dm_M.ofx (A := [some (.inr q0), some (am_i x1), some (.inr (.inl 4, 4)), none]) (by decide +kernel) rfl (ble rfl) (fun Q hQ => ?_)
  have H : wp (F_J7_copyOf_6403c X q0 x1 d) (fun a => Q (some (.inr a.1)) h a.2) := ⟨_, e, hQ⟩
  unfold F_J7_copyOf_6403c at H
  refine ql_a2 dJ7_copyOf_6403c_0 ?_
  refine dr_ldcM dJ7_copyOf_6403c_1 gc_w.2.2.2 ?_
  refine dr_acmpM 13 dJ7_copyOf_6403c_3 (by decide) ?_
  refine ql_i1 dJ7_copyOf_6403c_6 ?_
  obtain ⟨d1, e1, H⟩ := wp_b H
  refine dr_anew dJ7_copyOf_6403c_7 an_J7_2 e1 ?_
  refine dr_goto 24 dJ7_copyOf_6403c_10 (by decide) ?_
  refine qs_a3 dJ7_copyOf_6403c_24 rfl trivial ?_
  refine ql_a0 dJ7_copyOf_6403c_25 ?_
  refine dr_iconst (iI (0)) dJ7_copyOf_6403c_26 rfl ?_
  refine ql_a3 dJ7_copyOf_6403c_27 ?_
  refine dr_iconst (iI (0)) dJ7_copyOf_6403c_28 rfl ?_
  refine ql_a0 dJ7_copyOf_6403c_29 ?_
  obtain ⟨a1, e2, H⟩ := wp_b H
  refine dr_len dJ7_copyOf_6403c_30 e2 ?_
  refine ql_i1 dJ7_copyOf_6403c_31 ?_
  obtain ⟨a2, e3, H⟩ := wp_b H
  refine dc_S2i dJ7_copyOf_6403c_32 ml_J7_304 mc_J9_min_7cf53 (C_J9_min_7cf53 e3) rfl rfl rfl ?_
  obtain ⟨d2, e4, H⟩ := wp_b H
  refine dr_copyR dJ7_copyOf_6403c_35 cp_J7_150 rfl rfl rfl e4 ?_
  refine ql_a3 dJ7_copyOf_6403c_38 ?_
  replace H := wp_s H
  exact dr_aret dJ7_copyOf_6403c_39 rfl (Or.inr ⟨_, rfl⟩) H
noncomputable def F_J7_copyOf_1904c (X : dm_X) (q0 : am_G × Nat) (x1 : Int32) (d : dm_D) : Option ((am_G × Nat) × dm_D) :=
  (dm_rg d q0).bind (fun u1 => (F_J7_copyOf_6403c X q0 x1 d).bind (fun a1 => some (a1.1, a1.2)))
theorem C_J7_copyOf_1904c {X : dm_X} {q0 : am_G × Nat} {x1 : Int32} {h : am_H} {d : dm_D} {a : (am_G × Nat) × dm_D} (e : F_J7_copyOf_1904c X q0 x1 d = some a) : dm_Mx X yJ7_copyOf_1904c cJ7_copyOf_1904c 2 (some (.array (.object "java/lang/Object"))) 2 49 [.inr q0, am_i x1] h d (some (.inr a.1)) h a.2 := by
  refine dm_M.ofx (A := [some (.inr q0), some (am_i x1)]) (by decide +kernel) rfl (ble rfl) (fun Q hQ => ?_)
  have H : wp (F_J7_copyOf_1904c X q0 x1 d) (fun a => Q (some (.inr a.1)) h a.2) := ⟨_, e, hQ⟩
  unfold F_J7_copyOf_1904c at H
  refine ql_a0 dJ7_copyOf_1904c_0 ?_
  refine ql_i1 dJ7_copyOf_1904c_1 ?_
  refine ql_a0 dJ7_copyOf_1904c_2 ?_
  obtain ⟨u1, e1, H⟩ := wp_b H
  refine dr_getC dJ7_copyOf_1904c_3 gc_w.1.1 rfl rfl rfl e1 ?_
  obtain ⟨a1, e2, H⟩ := wp_b H
  refine dc_S3r dJ7_copyOf_1904c_6 ml_J7_300 mc_J7_copyOf_6403c (C_J7_copyOf_6403c e2) rfl rfl rfl ?_
  replace H := wp_s H
  exact dr_aret dJ7_copyOf_1904c_9 rfl (Or.inr ⟨_, rfl⟩) H
noncomputable def F_Jx4a65c_grow_92f84_20 (X : dm_X) (q0 : am_G × Nat) (x1 : Int32) (x2 : Int32) (d : dm_D) : Option ((am_G × Nat) × dm_D) :=
  (F_J8_newLength_cabcc x2 (x1 - x2) (x2 >>> ((iI (1)) &&& 31))).bind (fun a1 => (dm_fr d q0 16 1).bind (fun w1 => (F_J7_copyOf_1904c X w1 a1 d).bind (fun a2 => (dm_pu a2.2 q0 16 1 (.inr a2.1)).bind (fun d1 => some (a2.1, d1)))))
noncomputable def F_Jx4a65c_grow_92f84 (X : dm_X) (q0 : am_G × Nat) (x1 : Int32) (d : dm_D) : Option ((am_G × Nat) × dm_D) :=
  (dm_fr d q0 16 1).bind (fun w1 => (dm_ln X d w1).bind (fun a1 => if 0 < a1 then (F_Jx4a65c_grow_92f84_20 X q0 x1 a1 d) else ((dm_fr d q0 16 1).bind (fun w2 => if dm_neb w2 = true then (if w2 = (.inl 4, 0) then ((F_J9_max_7cf53 (iI (10)) x1).bind (fun a2 => (dm_nr d a2).bind (fun d1 => (dm_pu d1 q0 16 1 (.inr (.inl 0, d.1))).bind (fun d2 => some ((.inl 0, d.1), d2))))) else (F_Jx4a65c_grow_92f84_20 X q0 x1 a1 d)) else none))))
theorem C_Jx4a65c_grow_92f84_20 {X : dm_X} {q0 : am_G × Nat} {x1 : Int32} {x2 : Int32} {h : am_H} {d : dm_D} {k0 : Nat} {Q : Option am_v → am_H → dm_D → Prop} (H : wp (F_Jx4a65c_grow_92f84_20 X q0 x1 x2 d) (fun a => Q (some (.inr a.1)) h a.2)) : dm_V RJx4a65c "grow" cJx4a65c_grow_92f84 4 (some (.array (.object "java/lang/Object"))) 3 70 k0 X (dm_Tm cJx4a65c_grow_92f84 (some (.array (.object "java/lang/Object"))) Q) 20 [some (.inr q0), some (am_i x1), some (am_i x2), none] [] h d := by
  unfold F_Jx4a65c_grow_92f84_20 at H
  refine ql_i2 dJx4a65c_grow_92f84_20 ?_
  refine ql_i1 dJx4a65c_grow_92f84_21 ?_
  refine ql_i2 dJx4a65c_grow_92f84_22 ?_
  refine dr_isub dJx4a65c_grow_92f84_23 ?_
  refine ql_i2 dJx4a65c_grow_92f84_24 ?_
  refine dr_iconst (iI (1)) dJx4a65c_grow_92f84_25 rfl ?_
  refine dr_ishr dJx4a65c_grow_92f84_26 ?_
  obtain ⟨a1, e1, H⟩ := wp_b H
  refine dc_S3i dJx4a65c_grow_92f84_27 ml_Jx4a65c_73 mc_J8_newLength_cabcc (C_J8_newLength_cabcc e1) rfl rfl rfl ?_
  refine qs_i3 dJx4a65c_grow_92f84_30 rfl trivial ?_
  refine ql_a0 dJx4a65c_grow_92f84_31 ?_
  refine ql_a0 dJx4a65c_grow_92f84_32 ?_
  obtain ⟨w1, e2, H⟩ := wp_b H
  refine dr_getR dJx4a65c_grow_92f84_33 fg_Jx4a65c_9 e2 ?_
  refine ql_i3 dJx4a65c_grow_92f84_36 ?_
  obtain ⟨a2, e3, H⟩ := wp_b H
  refine dc_S2r dJx4a65c_grow_92f84_37 ml_Jx4a65c_66 mc_J7_copyOf_1904c (C_J7_copyOf_1904c e3) rfl rfl rfl ?_
  refine dr_dup_x1 dJx4a65c_grow_92f84_40 rfl rfl ?_
  obtain ⟨d1, e4, H⟩ := wp_b H
  refine dr_putR dJx4a65c_grow_92f84_41 fg_Jx4a65c_9 (fun _ => ⟨rfl, rfl⟩) e4 ?_
  replace H := wp_s H
  exact dr_aret dJx4a65c_grow_92f84_44 rfl (Or.inr ⟨_, rfl⟩) H
theorem C_Jx4a65c_grow_92f84 {X : dm_X} {q0 : am_G × Nat} {x1 : Int32} {h : am_H} {d : dm_D} {a : (am_G × Nat) × dm_D} (e : F_Jx4a65c_grow_92f84 X q0 x1 d = some a) : dm_Mx X yJx4a65c_grow_92f84 cJx4a65c_grow_92f84 4 (some (.array (.object "java/lang/Object"))) 3 70 [.inr q0, am_i x1] h d (some (.inr a.1)) h a.2 := by
  refine dm_M.ofx (A := [some (.inr q0), some (am_i x1), none, none]) (by decide +kernel) rfl (ble rfl) (fun Q hQ => ?_)
  have H : wp (F_Jx4a65c_grow_92f84 X q0 x1 d) (fun a => Q (some (.inr a.1)) h a.2) := ⟨_, e, hQ⟩
  unfold F_Jx4a65c_grow_92f84 at H
  refine ql_a0 dJx4a65c_grow_92f84_0 ?_
  obtain ⟨w1, e1, H⟩ := wp_b H
  refine dr_getR dJx4a65c_grow_92f84_1 fg_Jx4a65c_9 e1 ?_
  obtain ⟨a1, e2, H⟩ := wp_b H
  refine dr_len dJx4a65c_grow_92f84_4 e2 ?_
  refine qs_i2 dJx4a65c_grow_92f84_5 rfl trivial ?_
  refine ql_i2 dJx4a65c_grow_92f84_6 ?_
  refine dr_if_gt 20 dJx4a65c_grow_92f84_7 (by decide) (fun c1 => ?_) (fun c1 => ?_)
  · replace H := wp_t c1 H
    exact dr_wk (am_s (am_s (am_s (am_n am_0)))) (C_Jx4a65c_grow_92f84_20 H)
  · replace H := wp_f c1 H
    refine ql_a0 dJx4a65c_grow_92f84_10 ?_
    obtain ⟨w2, e3, H⟩ := wp_b H
    refine dr_getR dJx4a65c_grow_92f84_11 fg_Jx4a65c_9 e3 ?_
    refine dr_getsE dJx4a65c_grow_92f84_14 fs_Jx4a65c_39 ?_
    obtain ⟨b1, H⟩ := wp_g H
    refine dr_acmpE 45 dJx4a65c_grow_92f84_17 (by decide) (dm_neb_t b1) (fun _ _ _ => trivial) (fun c2 => ?_) (fun c2 => ?_)
    · replace H := wp_t c2 H
      refine ql_a0 dJx4a65c_grow_92f84_45 ?_
      refine dr_bipush (iI (10)) dJx4a65c_grow_92f84_46 rfl ?_
      refine ql_i1 dJx4a65c_grow_92f84_48 ?_
      obtain ⟨a2, e4, H⟩ := wp_b H
      refine dc_S2i dJx4a65c_grow_92f84_49 ml_Jx4a65c_79 mc_J9_max_7cf53 (C_J9_max_7cf53 e4) rfl rfl rfl ?_
      obtain ⟨d1, e5, H⟩ := wp_b H
      refine dr_anew dJx4a65c_grow_92f84_52 an_Jx4a65c_7 e5 ?_
      refine dr_dup_x1 dJx4a65c_grow_92f84_55 rfl rfl ?_
      obtain ⟨d2, e6, H⟩ := wp_b H
      refine dr_putR dJx4a65c_grow_92f84_56 fg_Jx4a65c_9 (fun _ => ⟨rfl, rfl⟩) e6 ?_
      replace H := wp_s H
      exact dr_aret dJx4a65c_grow_92f84_59 rfl (Or.inr ⟨_, rfl⟩) H
    · replace H := wp_f c2 H
      exact dr_wk (am_s (am_s (am_s (am_n am_0)))) (C_Jx4a65c_grow_92f84_20 H)
noncomputable def F_Jx4a65c_grow_d5877 (X : dm_X) (q0 : am_G × Nat) (d : dm_D) : Option ((am_G × Nat) × dm_D) :=
  (dm_fi d q0 16 2).bind (fun a1 => (dm_rk d q0 16).bind (fun u1 => (F_Jx4a65c_grow_92f84 X q0 (a1 + (iI (1))) d).bind (fun a2 => some (a2.1, a2.2))))
theorem C_Jx4a65c_grow_d5877 {X : dm_X} {q0 : am_G × Nat} {h : am_H} {d : dm_D} {a : (am_G × Nat) × dm_D} (e : F_Jx4a65c_grow_d5877 X q0 d = some a) : dm_Mx X yJx4a65c_grow_d5877 cJx4a65c_grow_d5877 1 (some (.array (.object "java/lang/Object"))) 4 93 [.inr q0] h d (some (.inr a.1)) h a.2 := by
  refine dm_M.ofx (A := [some (.inr q0)]) (by decide +kernel) rfl (ble rfl) (fun Q hQ => ?_)
  have H : wp (F_Jx4a65c_grow_d5877 X q0 d) (fun a => Q (some (.inr a.1)) h a.2) := ⟨_, e, hQ⟩
  unfold F_Jx4a65c_grow_d5877 at H
  refine ql_a0 dJx4a65c_grow_d5877_0 ?_
  refine ql_a0 dJx4a65c_grow_d5877_1 ?_
  obtain ⟨a1, e1, H⟩ := wp_b H
  refine dr_getI dJx4a65c_grow_d5877_2 fg_Jx4a65c_48 e1 ?_
  refine dr_iconst (iI (1)) dJx4a65c_grow_d5877_5 rfl ?_
  refine dr_iadd dJx4a65c_grow_d5877_6 ?_
  obtain ⟨u1, e3, H⟩ := wp_b H
  obtain ⟨a2, e2, H⟩ := wp_b H
  refine dc_V1r (C := (RJx4a65c, TJx4a65c, 3)) dJx4a65c_grow_d5877_7 ml_Jx4a65c_69 mc_Jx4a65c_grow_92f84 (C_Jx4a65c_grow_92f84 e2) (dm_rk_some e3) rfl rfl rfl rfl rfl ?_
  replace H := wp_s H
  exact dr_aret dJx4a65c_grow_d5877_10 rfl (Or.inr ⟨_, rfl⟩) H
noncomputable def F_Jx4a65c_add_72be8_11 (X : dm_X) (q0 : am_G × Nat) (q1 : am_G × Nat) (q2 : am_G × Nat) (x3 : Int32) (d : dm_D) : Option dm_D :=
  (dm_as d q2 x3 q1).bind (fun d1 => (dm_pu d1 q0 16 2 (am_i (x3 + (iI (1))))).bind (fun d2 => some d2))
noncomputable def F_Jx4a65c_add_72be8 (X : dm_X) (q0 : am_G × Nat) (q1 : am_G × Nat) (q2 : am_G × Nat) (x3 : Int32) (d : dm_D) : Option dm_D :=
  (dm_ln X d q2).bind (fun a1 => if x3 = a1 then ((dm_rk d q0 16).bind (fun u1 => (F_Jx4a65c_grow_d5877 X q0 d).bind (fun a2 => F_Jx4a65c_add_72be8_11 X q0 q1 a2.1 x3 a2.2))) else (F_Jx4a65c_add_72be8_11 X q0 q1 q2 x3 d))
theorem C_Jx4a65c_add_72be8_11 {X : dm_X} {q0 : am_G × Nat} {q1 : am_G × Nat} {q2 : am_G × Nat} {x3 : Int32} {h : am_H} {d : dm_D} {k0 : Nat} {Q : Option am_v → am_H → dm_D → Prop} (H : wp (F_Jx4a65c_add_72be8_11 X q0 q1 q2 x3 d) (fun a => Q none h a)) : dm_V RJx4a65c "add" cJx4a65c_add_72be8 4 (none) 5 113 k0 X (dm_Tm cJx4a65c_add_72be8 (none) Q) 11 [some (.inr q0), some (.inr q1), some (.inr q2), some (am_i x3)] [] h d := by
  unfold F_Jx4a65c_add_72be8_11 at H
  refine ql_a2 dJx4a65c_add_72be8_11 ?_
  refine ql_i3 dJx4a65c_add_72be8_12 ?_
  refine ql_a1 dJx4a65c_add_72be8_13 ?_
  obtain ⟨d1, e1, H⟩ := wp_b H
  refine dr_aast dJx4a65c_add_72be8_14 e1 ?_
  refine ql_a0 dJx4a65c_add_72be8_15 ?_
  refine ql_i3 dJx4a65c_add_72be8_16 ?_
  refine dr_iconst (iI (1)) dJx4a65c_add_72be8_17 rfl ?_
  refine dr_iadd dJx4a65c_add_72be8_18 ?_
  obtain ⟨d2, e2, H⟩ := wp_b H
  refine dr_putI dJx4a65c_add_72be8_19 fg_Jx4a65c_48 rfl rfl e2 ?_
  replace H := wp_s H
  exact dr_vret dJx4a65c_add_72be8_22 rfl H
theorem C_Jx4a65c_add_72be8 {X : dm_X} {q0 : am_G × Nat} {q1 : am_G × Nat} {q2 : am_G × Nat} {x3 : Int32} {h : am_H} {d : dm_D} {a : dm_D} (e : F_Jx4a65c_add_72be8 X q0 q1 q2 x3 d = some a) : dm_Mx X yJx4a65c_add_72be8 cJx4a65c_add_72be8 4 (none) 5 113 [.inr q0, .inr q1, .inr q2, am_i x3] h d none h a := by
  refine dm_M.ofx (A := [some (.inr q0), some (.inr q1), some (.inr q2), some (am_i x3)]) (by decide +kernel) rfl (ble rfl) (fun Q hQ => ?_)
  have H : wp (F_Jx4a65c_add_72be8 X q0 q1 q2 x3 d) (fun a => Q none h a) := ⟨_, e, hQ⟩
  unfold F_Jx4a65c_add_72be8 at H
  refine ql_i3 dJx4a65c_add_72be8_0 ?_
  refine ql_a2 dJx4a65c_add_72be8_1 ?_
  obtain ⟨a1, e1, H⟩ := wp_b H
  refine dr_len dJx4a65c_add_72be8_2 e1 ?_
  refine dr_ic_ne 11 dJx4a65c_add_72be8_3 (by decide) (fun c1 => ?_) (fun c1 => ?_)
  · replace H := wp_f c1 H
    exact dr_wk (am_s (am_s (am_s (am_s am_0)))) (C_Jx4a65c_add_72be8_11 H)
  · replace H := wp_t c1 H
    refine ql_a0 dJx4a65c_add_72be8_6 ?_
    obtain ⟨u1, e3, H⟩ := wp_b H
    obtain ⟨a2, e2, H⟩ := wp_b H
    refine dc_V0r (C := (RJx4a65c, TJx4a65c, 3)) dJx4a65c_add_72be8_7 ml_Jx4a65c_129 mc_Jx4a65c_grow_d5877 (C_Jx4a65c_grow_d5877 e2) (dm_rk_some e3) rfl rfl rfl rfl rfl ?_
    refine qs_a2 dJx4a65c_add_72be8_10 rfl trivial ?_
    exact dr_wk (am_s (am_s (am_s (am_s am_0)))) (C_Jx4a65c_add_72be8_11 H)
noncomputable def F_Jx4a65c_add_9ea2d (X : dm_X) (q0 : am_G × Nat) (q1 : am_G × Nat) (d : dm_D) : Option (Int32 × dm_D) :=
  (dm_fi d q0 16 0).bind (fun a1 => (dm_pu d q0 16 0 (am_i (a1 + (iI (1))))).bind (fun d1 => (dm_fr d1 q0 16 1).bind (fun w1 => (dm_fi d1 q0 16 2).bind (fun a2 => (dm_rk d1 q0 16).bind (fun u1 => (F_Jx4a65c_add_72be8 X q0 q1 w1 a2 d1).bind (fun a3 => some ((iI (1)), a3)))))))
theorem C_Jx4a65c_add_9ea2d {X : dm_X} {q0 : am_G × Nat} {q1 : am_G × Nat} {h : am_H} {d : dm_D} {a : Int32 × dm_D} (e : F_Jx4a65c_add_9ea2d X q0 q1 d = some a) : dm_Mx X yJx4a65c_add_9ea2d cJx4a65c_add_9ea2d 2 (some .boolean) 6 136 [.inr q0, .inr q1] h d (some (am_i a.1)) h a.2 := by
  refine dm_M.ofx (A := [some (.inr q0), some (.inr q1)]) (by decide +kernel) rfl (ble rfl) (fun Q hQ => ?_)
  have H : wp (F_Jx4a65c_add_9ea2d X q0 q1 d) (fun a => Q (some (am_i a.1)) h a.2) := ⟨_, e, hQ⟩
  unfold F_Jx4a65c_add_9ea2d at H
  refine ql_a0 dJx4a65c_add_9ea2d_0 ?_
  refine dr_dup dJx4a65c_add_9ea2d_1 trivial ?_
  obtain ⟨a1, e1, H⟩ := wp_b H
  refine dr_getM dJx4a65c_add_9ea2d_2 fs_Jx4a65c_63 fs_mod e1 ?_
  refine dr_iconst (iI (1)) dJx4a65c_add_9ea2d_5 rfl ?_
  refine dr_iadd dJx4a65c_add_9ea2d_6 ?_
  obtain ⟨d1, e2, H⟩ := wp_b H
  refine dr_putM dJx4a65c_add_9ea2d_7 fs_Jx4a65c_63 fs_mod e2 ?_
  refine ql_a0 dJx4a65c_add_9ea2d_10 ?_
  refine ql_a1 dJx4a65c_add_9ea2d_11 ?_
  refine ql_a0 dJx4a65c_add_9ea2d_12 ?_
  obtain ⟨w1, e3, H⟩ := wp_b H
  refine dr_getR dJx4a65c_add_9ea2d_13 fg_Jx4a65c_9 e3 ?_
  refine ql_a0 dJx4a65c_add_9ea2d_16 ?_
  obtain ⟨a2, e4, H⟩ := wp_b H
  refine dr_getI dJx4a65c_add_9ea2d_17 fg_Jx4a65c_48 e4 ?_
  obtain ⟨u1, e6, H⟩ := wp_b H
  obtain ⟨a3, e5, H⟩ := wp_b H
  refine dc_V3v (C := (RJx4a65c, TJx4a65c, 3)) dJx4a65c_add_9ea2d_20 ml_Jx4a65c_131 mc_Jx4a65c_add_72be8 (C_Jx4a65c_add_72be8 e5) (dm_rk_some e6) rfl rfl rfl rfl rfl ?_
  refine dr_iconst (iI (1)) dJx4a65c_add_9ea2d_23 rfl ?_
  replace H := wp_s H
  exact dr_iret dJx4a65c_add_9ea2d_24 rfl rfl H
noncomputable def F_J0_coder_7d493 (X : dm_X) (q0 : am_G × Nat) (d : dm_D) : Option Int32 :=
  if (1 : Int32) = 0 then (if ib (iI (1)) 128 then (some (iI (1))) else none) else ((dm_si d q0 1).bind (fun a1 => if ib a1 128 then (some a1) else none))
theorem C_J0_coder_7d493 {X : dm_X} {q0 : am_G × Nat} {h : am_H} {d : dm_D} {a : Int32} (e : F_J0_coder_7d493 X q0 d = some a) : dm_Mx X yJ0_coder_7d493 cJ0_coder_7d493 1 (some .byte) 0 0 [.inr q0] h d (some (am_i a)) h d := by
  refine dm_M.ofx (A := [some (.inr q0)]) (by decide +kernel) rfl (ble rfl) (fun Q hQ => ?_)
  have H : wp (F_J0_coder_7d493 X q0 d) (fun a => Q (some (am_i a)) h d) := ⟨_, e, hQ⟩
  unfold F_J0_coder_7d493 at H
  refine dr_getsC dJ0_coder_7d493_0 fs_J0_38 ?_
  refine dr_if_eq 13 dJ0_coder_7d493_3 (by decide) (fun c1 => ?_) (fun c1 => ?_)
  · replace H := wp_t c1 H
    refine dr_iconst (iI (1)) dJ0_coder_7d493_13 rfl ?_
    obtain ⟨b1, H⟩ := wp_g H
    replace H := wp_s H
    exact dr_iret dJ0_coder_7d493_14 rfl (zy_n b1) H
  · replace H := wp_f c1 H
    refine ql_a0 dJ0_coder_7d493_6 ?_
    obtain ⟨a1, e1, H⟩ := wp_b H
    refine dr_getSI dJ0_coder_7d493_7 (by decide) fs_J0_15 e1 ?_
    refine dr_goto 14 dJ0_coder_7d493_10 (by decide) ?_
    obtain ⟨b1, H⟩ := wp_g H
    replace H := wp_s H
    exact dr_iret dJ0_coder_7d493_14 rfl (zy_n b1) H
noncomputable def F_J0_length_8abf5 (X : dm_X) (q0 : am_G × Nat) (d : dm_D) : Option Int32 :=
  (dm_sr d q0 0).bind (fun w1 => (dm_ln X d w1).bind (fun a1 => (dm_rk d q0 13).bind (fun u1 => (F_J0_coder_7d493 X q0 d).bind (fun a2 => some (a1 >>> (a2 &&& 31))))))
theorem C_J0_length_8abf5 {X : dm_X} {q0 : am_G × Nat} {h : am_H} {d : dm_D} {a : Int32} (e : F_J0_length_8abf5 X q0 d = some a) : dm_Mx X yJ0_length_8abf5 cJ0_length_8abf5 1 (some .int) 1 20 [.inr q0] h d (some (am_i a)) h d := by
  refine dm_M.ofx (A := [some (.inr q0)]) (by decide +kernel) rfl (ble rfl) (fun Q hQ => ?_)
  have H : wp (F_J0_length_8abf5 X q0 d) (fun a => Q (some (am_i a)) h d) := ⟨_, e, hQ⟩
  unfold F_J0_length_8abf5 at H
  refine ql_a0 dJ0_length_8abf5_0 ?_
  obtain ⟨w1, e1, H⟩ := wp_b H
  refine dr_getSR dJ0_length_8abf5_1 (by decide) fs_J0_9 e1 ?_
  obtain ⟨a1, e2, H⟩ := wp_b H
  refine dr_len dJ0_length_8abf5_4 e2 ?_
  refine ql_a0 dJ0_length_8abf5_5 ?_
  obtain ⟨u1, e4, H⟩ := wp_b H
  obtain ⟨a2, e3, H⟩ := wp_b H
  refine dc_V0i (C := (RJ0, TJ0, 4)) dJ0_length_8abf5_6 ml_J0_335 mc_J0_coder_7d493 (C_J0_coder_7d493 e3) (dm_rk_some e4) rfl rfl rfl rfl rfl ?_
  refine dr_ishr dJ0_length_8abf5_9 ?_
  replace H := wp_s H
  exact dr_iret dJ0_length_8abf5_10 rfl rfl H
noncomputable def F_J0_isLatin1_aae02 (X : dm_X) (q0 : am_G × Nat) (d : dm_D) : Option Int32 :=
  if (1 : Int32) = 0 then (some (iI (0))) else ((dm_si d q0 1).bind (fun a1 => if a1 = 0 then (some (iI (1))) else (some (iI (0)))))
theorem C_J0_isLatin1_aae02 {X : dm_X} {q0 : am_G × Nat} {h : am_H} {d : dm_D} {a : Int32} (e : F_J0_isLatin1_aae02 X q0 d = some a) : dm_Mx X yJ0_isLatin1_aae02 cJ0_isLatin1_aae02 1 (some .boolean) 0 0 [.inr q0] h d (some (am_i a)) h d := by
  refine dm_M.ofx (A := [some (.inr q0)]) (by decide +kernel) rfl (ble rfl) (fun Q hQ => ?_)
  have H : wp (F_J0_isLatin1_aae02 X q0 d) (fun a => Q (some (am_i a)) h d) := ⟨_, e, hQ⟩
  unfold F_J0_isLatin1_aae02 at H
  refine dr_getsC dJ0_isLatin1_aae02_0 fs_J0_38 ?_
  refine dr_if_eq 17 dJ0_isLatin1_aae02_3 (by decide) (fun c1 => ?_) (fun c1 => ?_)
  · replace H := wp_t c1 H
    refine dr_iconst (iI (0)) dJ0_isLatin1_aae02_17 rfl ?_
    replace H := wp_s H
    exact dr_iret dJ0_isLatin1_aae02_18 rfl rfl H
  · replace H := wp_f c1 H
    refine ql_a0 dJ0_isLatin1_aae02_6 ?_
    obtain ⟨a1, e1, H⟩ := wp_b H
    refine dr_getSI dJ0_isLatin1_aae02_7 (by decide) fs_J0_15 e1 ?_
    refine dr_if_ne 17 dJ0_isLatin1_aae02_10 (by decide) (fun c2 => ?_) (fun c2 => ?_)
    · replace H := wp_f c2 H
      refine dr_iconst (iI (0)) dJ0_isLatin1_aae02_17 rfl ?_
      replace H := wp_s H
      exact dr_iret dJ0_isLatin1_aae02_18 rfl rfl H
    · replace H := wp_t c2 H
      refine dr_iconst (iI (1)) dJ0_isLatin1_aae02_13 rfl ?_
      refine dr_goto 18 dJ0_isLatin1_aae02_14 (by decide) ?_
      replace H := wp_s H
      exact dr_iret dJ0_isLatin1_aae02_18 rfl rfl H
noncomputable def F_J1_charAt_3b067 (X : dm_X) (q0 : am_G × Nat) (x1 : Int32) (d : dm_D) : Option Int32 :=
  (dm_ln X d q0).bind (fun a1 => (F_J0_checkIndex_df160 x1 a1).bind (fun a2 => (dm_lb d q0 x1).bind (fun a3 => if ib (((a3 &&& (iI (255))).toUInt32 % 65536).toInt32) 65536 then (some (((a3 &&& (iI (255))).toUInt32 % 65536).toInt32)) else none)))
theorem C_J1_charAt_3b067 {X : dm_X} {q0 : am_G × Nat} {x1 : Int32} {h : am_H} {d : dm_D} {a : Int32} (e : F_J1_charAt_3b067 X q0 x1 d = some a) : dm_Mx X yJ1_charAt_3b067 cJ1_charAt_3b067 2 (some .char) 2 51 [.inr q0, am_i x1] h d (some (am_i a)) h d := by
  refine dm_M.ofx (A := [some (.inr q0), some (am_i x1)]) (by decide +kernel) rfl (ble rfl) (fun Q hQ => ?_)
  have H : wp (F_J1_charAt_3b067 X q0 x1 d) (fun a => Q (some (am_i a)) h d) := ⟨_, e, hQ⟩
  unfold F_J1_charAt_3b067 at H
  refine ql_i1 dJ1_charAt_3b067_0 ?_
  refine ql_a0 dJ1_charAt_3b067_1 ?_
  obtain ⟨a1, e1, H⟩ := wp_b H
  refine dr_len dJ1_charAt_3b067_2 e1 ?_
  obtain ⟨a2, e2, H⟩ := wp_b H
  refine dc_S2v dJ1_charAt_3b067_3 ml_J1_9 mc_J0_checkIndex_df160 (C_J0_checkIndex_df160 e2) rfl rfl rfl ?_
  refine ql_a0 dJ1_charAt_3b067_6 ?_
  refine ql_i1 dJ1_charAt_3b067_7 ?_
  obtain ⟨a3, e3, H⟩ := wp_b H
  refine dr_bald dJ1_charAt_3b067_8 e3 ?_
  refine dr_sipush (iI (255)) dJ1_charAt_3b067_9 rfl ?_
  refine dr_iand dJ1_charAt_3b067_12 ?_
  refine dr_i2c dJ1_charAt_3b067_13 ?_
  obtain ⟨b1, H⟩ := wp_g H
  replace H := wp_s H
  exact dr_iret dJ1_charAt_3b067_14 rfl (zc_n b1) H
noncomputable def F_J0_charAt_5068e (X : dm_X) (q0 : am_G × Nat) (x1 : Int32) (d : dm_D) : Option Int32 :=
  (dm_rk d q0 13).bind (fun u1 => (F_J0_isLatin1_aae02 X q0 d).bind (fun a1 => if a1 = 0 then ((dm_sr d q0 0).bind (fun w1 => none)) else ((dm_sr d q0 0).bind (fun w1 => (F_J1_charAt_3b067 X w1 x1 d).bind (fun a2 => if ib a2 65536 then (some a2) else none)))))
theorem C_J0_charAt_5068e {X : dm_X} {q0 : am_G × Nat} {x1 : Int32} {h : am_H} {d : dm_D} {a : Int32} (e : F_J0_charAt_5068e X q0 x1 d = some a) : dm_Mx X yJ0_charAt_5068e cJ0_charAt_5068e 2 (some .char) 3 72 [.inr q0, am_i x1] h d (some (am_i a)) h d := by
  refine dm_M.ofx (A := [some (.inr q0), some (am_i x1)]) (by decide +kernel) rfl (ble rfl) (fun Q hQ => ?_)
  have H : wp (F_J0_charAt_5068e X q0 x1 d) (fun a => Q (some (am_i a)) h d) := ⟨_, e, hQ⟩
  unfold F_J0_charAt_5068e at H
  refine ql_a0 dJ0_charAt_5068e_0 ?_
  obtain ⟨u1, e2, H⟩ := wp_b H
  obtain ⟨a1, e1, H⟩ := wp_b H
  refine dc_V0i (C := (RJ0, TJ0, 4)) dJ0_charAt_5068e_1 ml_J0_492 mc_J0_isLatin1_aae02 (C_J0_isLatin1_aae02 e1) (dm_rk_some e2) rfl rfl rfl rfl rfl ?_
  refine dr_if_eq 16 dJ0_charAt_5068e_4 (by decide) (fun c1 => ?_) (fun c1 => ?_)
  · replace H := wp_t c1 H
    refine ql_a0 dJ0_charAt_5068e_16 ?_
    obtain ⟨w1, e3, H⟩ := wp_b H
    refine dr_getSR dJ0_charAt_5068e_17 (by decide) fs_J0_9 e3 ?_
    refine ql_i1 dJ0_charAt_5068e_20 ?_
    exact (wp_n H).elim
  · replace H := wp_f c1 H
    refine ql_a0 dJ0_charAt_5068e_7 ?_
    obtain ⟨w1, e3, H⟩ := wp_b H
    refine dr_getSR dJ0_charAt_5068e_8 (by decide) fs_J0_9 e3 ?_
    refine ql_i1 dJ0_charAt_5068e_11 ?_
    obtain ⟨a2, e4, H⟩ := wp_b H
    refine dc_S2i dJ0_charAt_5068e_12 ml_J0_495 mc_J1_charAt_3b067 (C_J1_charAt_3b067 e4) rfl rfl rfl ?_
    obtain ⟨b1, H⟩ := wp_g H
    replace H := wp_s H
    exact dr_iret dJ0_charAt_5068e_15 rfl (zc_n b1) H
noncomputable def F_J0_isEmpty_aae02 (X : dm_X) (q0 : am_G × Nat) (d : dm_D) : Option Int32 :=
  (dm_sr d q0 0).bind (fun w1 => (dm_ln X d w1).bind (fun a1 => if a1 = 0 then (some (iI (1))) else (some (iI (0)))))
theorem C_J0_isEmpty_aae02 {X : dm_X} {q0 : am_G × Nat} {h : am_H} {d : dm_D} {a : Int32} (e : F_J0_isEmpty_aae02 X q0 d = some a) : dm_Mx X yJ0_isEmpty_aae02 cJ0_isEmpty_aae02 1 (some .boolean) 0 0 [.inr q0] h d (some (am_i a)) h d := by
  refine dm_M.ofx (A := [some (.inr q0)]) (by decide +kernel) rfl (ble rfl) (fun Q hQ => ?_)
  have H : wp (F_J0_isEmpty_aae02 X q0 d) (fun a => Q (some (am_i a)) h d) := ⟨_, e, hQ⟩
  unfold F_J0_isEmpty_aae02 at H
  refine ql_a0 dJ0_isEmpty_aae02_0 ?_
  obtain ⟨w1, e1, H⟩ := wp_b H
  refine dr_getSR dJ0_isEmpty_aae02_1 (by decide) fs_J0_9 e1 ?_
  obtain ⟨a1, e2, H⟩ := wp_b H
  refine dr_len dJ0_isEmpty_aae02_4 e2 ?_
  refine dr_if_ne 12 dJ0_isEmpty_aae02_5 (by decide) (fun c1 => ?_) (fun c1 => ?_)
  · replace H := wp_f c1 H
    refine dr_iconst (iI (0)) dJ0_isEmpty_aae02_12 rfl ?_
    replace H := wp_s H
    exact dr_iret dJ0_isEmpty_aae02_13 rfl rfl H
  · replace H := wp_t c1 H
    refine dr_iconst (iI (1)) dJ0_isEmpty_aae02_8 rfl ?_
    refine dr_goto 13 dJ0_isEmpty_aae02_9 (by decide) ?_
    replace H := wp_s H
    exact dr_iret dJ0_isEmpty_aae02_13 rfl rfl H
noncomputable def F_Jxa1e45_init_da8c8 (q0 : am_G × Nat) : Option Unit :=
  some ()
theorem C_Jxa1e45_init_da8c8 {X : dm_X} {q0 : am_G × Nat} {h : am_H} {d : dm_D} {a : Unit} (e : F_Jxa1e45_init_da8c8 q0 = some a) : dm_Mx X yJxa1e45_init_da8c8 cJxa1e45_init_da8c8 1 (none) 1 20 [.inr q0] h d none h d := by
  refine dm_M.ofx (A := [some (.inr q0)]) (by decide +kernel) rfl (ble rfl) (fun Q hQ => ?_)
  have H : wp (F_Jxa1e45_init_da8c8 q0) (fun _ => Q none h d) := ⟨_, e, hQ⟩
  unfold F_Jxa1e45_init_da8c8 at H
  refine ql_a0 dJxa1e45_init_da8c8_0 ?_
  refine dr_objI dJxa1e45_init_da8c8_1 ob_Jxa1e45_1 ob_0.1 ob_0.2 rfl rfl rfl ?_
  replace H := wp_s H
  exact dr_vret dJxa1e45_init_da8c8_4 rfl H
noncomputable def F_Jxc12de_init_da8c8 (X : dm_X) (q0 : am_G × Nat) (d : dm_D) : Option dm_D :=
  (F_Jxa1e45_init_da8c8 q0).bind (fun a1 => (dm_pu d q0 16 0 (am_i (iI (0)))).bind (fun d1 => some d1))
theorem C_Jxc12de_init_da8c8 {X : dm_X} {q0 : am_G × Nat} {h : am_H} {d : dm_D} {a : dm_D} (e : F_Jxc12de_init_da8c8 X q0 d = some a) : dm_Mx X yJxc12de_init_da8c8 cJxc12de_init_da8c8 1 (none) 2 40 [.inr q0] h d none h a := by
  refine dm_M.ofx (A := [some (.inr q0)]) (by decide +kernel) rfl (ble rfl) (fun Q hQ => ?_)
  have H : wp (F_Jxc12de_init_da8c8 X q0 d) (fun a => Q none h a) := ⟨_, e, hQ⟩
  unfold F_Jxc12de_init_da8c8 at H
  refine ql_a0 dJxc12de_init_da8c8_0 ?_
  obtain ⟨a1, e1, H⟩ := wp_b H
  refine dc_I0v dJxc12de_init_da8c8_1 ml_Jxc12de_1 mi_Jxa1e45_init_da8c8 (C_Jxa1e45_init_da8c8 e1) rfl rfl rfl ?_
  refine ql_a0 dJxc12de_init_da8c8_4 ?_
  refine dr_iconst (iI (0)) dJxc12de_init_da8c8_5 rfl ?_
  obtain ⟨d1, e2, H⟩ := wp_b H
  refine dr_putI dJxc12de_init_da8c8_6 fg_Jxc12de_7 rfl rfl e2 ?_
  replace H := wp_s H
  exact dr_vret dJxc12de_init_da8c8_9 rfl H
noncomputable def F_Jx4a65c_init_da8c8 (X : dm_X) (q0 : am_G × Nat) (d : dm_D) : Option dm_D :=
  (F_Jxc12de_init_da8c8 X q0 d).bind (fun a1 => (dm_pu a1 q0 16 1 (.inr (.inl 4, 0))).bind (fun d1 => some d1))
theorem C_Jx4a65c_init_da8c8 {X : dm_X} {q0 : am_G × Nat} {h : am_H} {d : dm_D} {a : dm_D} (e : F_Jx4a65c_init_da8c8 X q0 d = some a) : dm_Mx X yJx4a65c_init_da8c8 cJx4a65c_init_da8c8 1 (none) 3 60 [.inr q0] h d none h a := by
  refine dm_M.ofx (A := [some (.inr q0)]) (by decide +kernel) rfl (ble rfl) (fun Q hQ => ?_)
  have H : wp (F_Jx4a65c_init_da8c8 X q0 d) (fun a => Q none h a) := ⟨_, e, hQ⟩
  unfold F_Jx4a65c_init_da8c8 at H
  refine ql_a0 dJx4a65c_init_da8c8_0 ?_
  obtain ⟨a1, e1, H⟩ := wp_b H
  refine dc_I0v dJx4a65c_init_da8c8_1 ml_Jx4a65c_1 mi_Jxc12de_init_da8c8 (C_Jxc12de_init_da8c8 e1) rfl rfl rfl ?_
  refine ql_a0 dJx4a65c_init_da8c8_4 ?_
  refine dr_getsE dJx4a65c_init_da8c8_5 fs_Jx4a65c_39 ?_
  obtain ⟨d1, e2, H⟩ := wp_b H
  refine dr_putR dJx4a65c_init_da8c8_8 fg_Jx4a65c_9 (fun _ => ⟨rfl, rfl⟩) e2 ?_
  replace H := wp_s H
  exact dr_vret dJx4a65c_init_da8c8_11 rfl H
noncomputable def F_J5_init_d00df (X : dm_X) (q0 : am_G × Nat) (x1 : Int32) (d : dm_D) : Option dm_D :=
  if (1 : Int32) = 0 then (none) else ((dm_na d 1 x1).bind (fun d1 => (dm_pu d1 q0 14 0 (.inr (.inl 0, d.1))).bind (fun d2 => (dm_pu d2 q0 14 1 (am_i (iI (0)))).bind (fun d3 => some d3))))
theorem C_J5_init_d00df {X : dm_X} {q0 : am_G × Nat} {x1 : Int32} {h : am_H} {d : dm_D} {a : dm_D} (e : F_J5_init_d00df X q0 x1 d = some a) : dm_Mx X yJ5_init_d00df cJ5_init_d00df 2 (none) 1 20 [.inr q0, am_i x1] h d none h a := by
  refine dm_M.ofx (A := [some (.inr q0), some (am_i x1)]) (by decide +kernel) rfl (ble rfl) (fun Q hQ => ?_)
  have H : wp (F_J5_init_d00df X q0 x1 d) (fun a => Q none h a) := ⟨_, e, hQ⟩
  unfold F_J5_init_d00df at H
  refine ql_a0 dJ5_init_d00df_0 ?_
  refine dr_objI dJ5_init_d00df_1 ob_J5_3 ob_0.1 ob_0.2 rfl rfl rfl ?_
  refine dr_getsC dJ5_init_d00df_4 fs_J5_18 ?_
  refine dr_if_eq 25 dJ5_init_d00df_7 (by decide) (fun c1 => ?_) (fun c1 => ?_)
  · replace H := wp_t c1 H
    refine ql_a0 dJ5_init_d00df_25 ?_
    refine ql_i1 dJ5_init_d00df_26 ?_
    exact (wp_n H).elim
  · replace H := wp_f c1 H
    refine ql_a0 dJ5_init_d00df_10 ?_
    refine ql_i1 dJ5_init_d00df_11 ?_
    obtain ⟨d1, e1, H⟩ := wp_b H
    refine dr_newa dJ5_init_d00df_12 na_byte (fun _ => rfl) (by decide) (fun _ _ => rfl) e1 ?_
    obtain ⟨d2, e2, H⟩ := wp_b H
    refine dr_putR dJ5_init_d00df_14 fg_J5_15 (fun _ => ⟨rfl, rfl⟩) e2 ?_
    refine ql_a0 dJ5_init_d00df_17 ?_
    refine dr_iconst (iI (0)) dJ5_init_d00df_18 rfl ?_
    obtain ⟨d3, e3, H⟩ := wp_b H
    refine dr_putI dJ5_init_d00df_19 fg_J5_22 rfl rfl e3 ?_
    refine dr_goto 38 dJ5_init_d00df_22 (by decide) ?_
    replace H := wp_s H
    exact dr_vret dJ5_init_d00df_38 rfl H
noncomputable def F_J4_init_da8c8 (X : dm_X) (q0 : am_G × Nat) (d : dm_D) : Option dm_D :=
  (F_J5_init_d00df X q0 (iI (16)) d).bind (fun a1 => some a1)
theorem C_J4_init_da8c8 {X : dm_X} {q0 : am_G × Nat} {h : am_H} {d : dm_D} {a : dm_D} (e : F_J4_init_da8c8 X q0 d = some a) : dm_Mx X yJ4_init_da8c8 cJ4_init_da8c8 1 (none) 2 41 [.inr q0] h d none h a := by
  refine dm_M.ofx (A := [some (.inr q0)]) (by decide +kernel) rfl (ble rfl) (fun Q hQ => ?_)
  have H : wp (F_J4_init_da8c8 X q0 d) (fun a => Q none h a) := ⟨_, e, hQ⟩
  unfold F_J4_init_da8c8 at H
  refine ql_a0 dJ4_init_da8c8_0 ?_
  refine dr_bipush (iI (16)) dJ4_init_da8c8_1 rfl ?_
  obtain ⟨a1, e1, H⟩ := wp_b H
  refine dc_I1v dJ4_init_da8c8_3 ml_J4_1 mi_J5_init_d00df (C_J5_init_d00df e1) rfl rfl rfl ?_
  replace H := wp_s H
  exact dr_vret dJ4_init_da8c8_6 rfl H
noncomputable def S_J7_fill_53178 (X : dm_X)  : dm_S dm_D → Option (dm_S dm_D ⊕ dm_D) := fun s => match s with
  | (5, [x1, x2, x3], [q0], d) => if x3 ≤ x2 then (some (.inr d)) else ((dm_wi d q0 0 x2 x1).bind (fun d1 => some (.inl (5, [x1, (x2 + 1), x3], [q0], d1))))
  | _ => none
noncomputable def F_J7_fill_53178_5 (X : dm_X) (q0 : am_G × Nat) (x1 : Int32) (x2 : Int32) (x3 : Int32) (d : dm_D) : Option dm_D := lp (S_J7_fill_53178 X) (5, [x1, x2, x3], [q0], d)
theorem E_J7_fill_53178_5 (X : dm_X) (q0 : am_G × Nat) (x1 : Int32) (x2 : Int32) (x3 : Int32) (d : dm_D) : F_J7_fill_53178_5 X q0 x1 x2 x3 d = (if x3 ≤ x2 then (some d) else ((dm_wi d q0 0 x2 x1).bind (fun d1 => F_J7_fill_53178_5 X q0 x1 (x2 + 1) x3 d1))) := by
  show lp _ _ = _
  rw [lp_eq, S_J7_fill_53178]
  simp only [lpk_i, lpk_b, lpk_n, lpk_j, lpk_r] <;> rfl
noncomputable def F_J7_fill_53178 (X : dm_X) (q0 : am_G × Nat) (x1 : Int32) (d : dm_D) : Option dm_D :=
  (dm_ln X d q0).bind (fun a1 => F_J7_fill_53178_5 X q0 x1 (iI (0)) a1 d)
theorem C_J7_fill_53178_L {X : dm_X} {h : am_H} {k0 : Nat} {Q : Option am_v → am_H → dm_D → Prop} : ∀ s, wp (lp (S_J7_fill_53178 X) s) (fun a => Q none h a) → ((∀ q0 x1 x2 x3 d, s = (5, [x1, x2, x3], [q0], d) → dm_V RJ7 "fill" cJ7_fill_53178 4 (none) 0 0 k0 X (dm_Tm cJ7_fill_53178 (none) Q) 5 [some (.inr q0), some (am_i x1), some (am_i x2), some (am_i x3)] [] h d)) := by
  refine lp_ind _ _ (fun s H => fun q0 x1 x2 x3 d e => ?_)
  · subst e
    rw [S_J7_fill_53178] at H
    refine ql_i2 dJ7_fill_53178_5 ?_
    refine ql_i3 dJ7_fill_53178_6 ?_
    refine dr_ic_ge 20 dJ7_fill_53178_7 (by decide) (fun c1 => ?_) (fun c1 => ?_)
    · replace H := wp_t c1 H
      replace H := lp_re H
      exact dr_vret dJ7_fill_53178_20 rfl H
    · replace H := wp_f c1 H
      refine ql_a0 dJ7_fill_53178_10 ?_
      refine ql_i2 dJ7_fill_53178_11 ?_
      refine ql_i1 dJ7_fill_53178_12 ?_
      obtain ⟨d1, e1, H⟩ := wp_b H
      refine dr_iast dJ7_fill_53178_13 e1 ?_
      refine qn_1_2 dJ7_fill_53178_14 rfl trivial ?_
      refine dr_goto 5 dJ7_fill_53178_17 (by decide) ?_
      exact dr_wk (am_s (am_s (am_s (am_s am_0)))) ((lp_in H) _ _ _ _ _ rfl)
theorem C_J7_fill_53178 {X : dm_X} {q0 : am_G × Nat} {x1 : Int32} {h : am_H} {d : dm_D} {a : dm_D} (e : F_J7_fill_53178 X q0 x1 d = some a) : dm_Mx X yJ7_fill_53178 cJ7_fill_53178 4 (none) 0 0 [.inr q0, am_i x1] h d none h a := by
  refine dm_M.ofx (A := [some (.inr q0), some (am_i x1), none, none]) (by decide +kernel) rfl (ble rfl) (fun Q hQ => ?_)
  have H : wp (F_J7_fill_53178 X q0 x1 d) (fun a => Q none h a) := ⟨_, e, hQ⟩
  unfold F_J7_fill_53178 at H
  refine dr_iconst (iI (0)) dJ7_fill_53178_0 rfl ?_
  refine qs_i2 dJ7_fill_53178_1 rfl trivial ?_
  refine ql_a0 dJ7_fill_53178_2 ?_
  obtain ⟨a1, e1, H⟩ := wp_b H
  refine dr_len dJ7_fill_53178_3 e1 ?_
  refine qs_i3 dJ7_fill_53178_4 rfl trivial ?_
  exact dr_wk (am_s (am_s (am_s (am_s am_0)))) ((C_J7_fill_53178_L _ H) _ _ _ _ _ rfl)
noncomputable def F_J5_newCapacity_0f7a4 (X : dm_X) (q0 : am_G × Nat) (x1 : Int32) (d : dm_D) : Option Int32 :=
  (dm_fr d q0 14 0).bind (fun w1 => (dm_ln X d w1).bind (fun a1 => (dm_fi d q0 14 1).bind (fun a2 => (dm_fi d q0 14 1).bind (fun a3 => (F_J8_newLength_cabcc a1 ((x1 <<< (a2 &&& 31)) - a1) (a1 + ((iI (2)) <<< (a3 &&& 31)))).bind (fun a4 => if a4 = (2147483647 : Int32) then (none) else ((dm_fi d q0 14 1).bind (fun a5 => some (a4 >>> (a5 &&& 31)))))))))
theorem C_J5_newCapacity_0f7a4 {X : dm_X} {q0 : am_G × Nat} {x1 : Int32} {h : am_H} {d : dm_D} {a : Int32} (e : F_J5_newCapacity_0f7a4 X q0 x1 d = some a) : dm_Mx X yJ5_newCapacity_0f7a4 cJ5_newCapacity_0f7a4 6 (some .int) 2 44 [.inr q0, am_i x1] h d (some (am_i a)) h d := by
  refine dm_M.ofx (A := [some (.inr q0), some (am_i x1), none, none, none, none]) (by decide +kernel) rfl (ble rfl) (fun Q hQ => ?_)
  have H : wp (F_J5_newCapacity_0f7a4 X q0 x1 d) (fun a => Q (some (am_i a)) h d) := ⟨_, e, hQ⟩
  unfold F_J5_newCapacity_0f7a4 at H
  refine ql_a0 dJ5_newCapacity_0f7a4_0 ?_
  obtain ⟨w1, e1, H⟩ := wp_b H
  refine dr_getR dJ5_newCapacity_0f7a4_1 fg_J5_15 e1 ?_
  obtain ⟨a1, e2, H⟩ := wp_b H
  refine dr_len dJ5_newCapacity_0f7a4_4 e2 ?_
  refine qs_i2 dJ5_newCapacity_0f7a4_5 rfl trivial ?_
  refine ql_i1 dJ5_newCapacity_0f7a4_6 ?_
  refine ql_a0 dJ5_newCapacity_0f7a4_7 ?_
  obtain ⟨a2, e3, H⟩ := wp_b H
  refine dr_getI dJ5_newCapacity_0f7a4_8 fg_J5_22 e3 ?_
  refine dr_ishl dJ5_newCapacity_0f7a4_11 ?_
  refine qs_i3 dJ5_newCapacity_0f7a4_12 rfl trivial ?_
  refine ql_i3 dJ5_newCapacity_0f7a4_13 ?_
  refine ql_i2 dJ5_newCapacity_0f7a4_14 ?_
  refine dr_isub dJ5_newCapacity_0f7a4_15 ?_
  refine qs_i4 dJ5_newCapacity_0f7a4_16 rfl trivial ?_
  refine ql_i2 dJ5_newCapacity_0f7a4_18 ?_
  refine ql_i4 dJ5_newCapacity_0f7a4_19 ?_
  refine ql_i2 dJ5_newCapacity_0f7a4_21 ?_
  refine dr_iconst (iI (2)) dJ5_newCapacity_0f7a4_22 rfl ?_
  refine ql_a0 dJ5_newCapacity_0f7a4_23 ?_
  obtain ⟨a3, e4, H⟩ := wp_b H
  refine dr_getI dJ5_newCapacity_0f7a4_24 fg_J5_22 e4 ?_
  refine dr_ishl dJ5_newCapacity_0f7a4_27 ?_
  refine dr_iadd dJ5_newCapacity_0f7a4_28 ?_
  obtain ⟨a4, e5, H⟩ := wp_b H
  refine dc_S3i dJ5_newCapacity_0f7a4_29 ml_J5_114 mc_J8_newLength_cabcc (C_J8_newLength_cabcc e5) rfl rfl rfl ?_
  refine qs_i5 dJ5_newCapacity_0f7a4_32 rfl trivial ?_
  refine ql_i5 dJ5_newCapacity_0f7a4_34 ?_
  refine dr_ldc (2147483647) dJ5_newCapacity_0f7a4_36 kc_J5_39 ?_
  refine dr_ic_ne 51 dJ5_newCapacity_0f7a4_38 (by decide) (fun c1 => ?_) (fun c1 => ?_)
  · replace H := wp_f c1 H
    refine ql_i5 dJ5_newCapacity_0f7a4_51 ?_
    refine ql_a0 dJ5_newCapacity_0f7a4_53 ?_
    obtain ⟨a5, e6, H⟩ := wp_b H
    refine dr_getI dJ5_newCapacity_0f7a4_54 fg_J5_22 e6 ?_
    refine dr_ishr dJ5_newCapacity_0f7a4_57 ?_
    replace H := wp_s H
    exact dr_iret dJ5_newCapacity_0f7a4_58 rfl rfl H
  · replace H := wp_t c1 H
    exact (wp_n H).elim
noncomputable def F_J7_copyOf_9075b (X : dm_X) (q0 : am_G × Nat) (x1 : Int32) (d : dm_D) : Option ((am_G × Nat) × dm_D) :=
  (dm_ln X d q0).bind (fun a1 => if x1 = a1 then (none) else ((dm_na d 1 x1).bind (fun d1 => (dm_ln X d1 q0).bind (fun a2 => (F_J9_min_7cf53 a2 x1).bind (fun a3 => (dm_cb d1 q0 (iI (0)) (.inl 0, d.1) (iI (0)) a3).bind (fun d2 => some ((.inl 0, d.1), d2)))))))
theorem C_J7_copyOf_9075b {X : dm_X} {q0 : am_G × Nat} {x1 : Int32} {h : am_H} {d : dm_D} {a : (am_G × Nat) × dm_D} (e : F_J7_copyOf_9075b X q0 x1 d = some a) : dm_Mx X yJ7_copyOf_9075b cJ7_copyOf_9075b 3 (some (.array .byte)) 1 26 [.inr q0, am_i x1] h d (some (.inr a.1)) h a.2 := by
  refine dm_M.ofx (A := [some (.inr q0), some (am_i x1), none]) (by decide +kernel) rfl (ble rfl) (fun Q hQ => ?_)
  have H : wp (F_J7_copyOf_9075b X q0 x1 d) (fun a => Q (some (.inr a.1)) h a.2) := ⟨_, e, hQ⟩
  unfold F_J7_copyOf_9075b at H
  refine ql_i1 dJ7_copyOf_9075b_0 ?_
  refine ql_a0 dJ7_copyOf_9075b_1 ?_
  obtain ⟨a1, e1, H⟩ := wp_b H
  refine dr_len dJ7_copyOf_9075b_2 e1 ?_
  refine dr_ic_ne 14 dJ7_copyOf_9075b_3 (by decide) (fun c1 => ?_) (fun c1 => ?_)
  · replace H := wp_f c1 H
    refine ql_i1 dJ7_copyOf_9075b_14 ?_
    obtain ⟨d1, e2, H⟩ := wp_b H
    refine dr_newa dJ7_copyOf_9075b_15 na_byte (fun _ => rfl) (by decide) (fun _ _ => rfl) e2 ?_
    refine qs_a2 dJ7_copyOf_9075b_17 rfl trivial ?_
    refine ql_a0 dJ7_copyOf_9075b_18 ?_
    refine dr_iconst (iI (0)) dJ7_copyOf_9075b_19 rfl ?_
    refine ql_a2 dJ7_copyOf_9075b_20 ?_
    refine dr_iconst (iI (0)) dJ7_copyOf_9075b_21 rfl ?_
    refine ql_a0 dJ7_copyOf_9075b_22 ?_
    obtain ⟨a2, e3, H⟩ := wp_b H
    refine dr_len dJ7_copyOf_9075b_23 e3 ?_
    refine ql_i1 dJ7_copyOf_9075b_24 ?_
    obtain ⟨a3, e4, H⟩ := wp_b H
    refine dc_S2i dJ7_copyOf_9075b_25 ml_J7_304 mc_J9_min_7cf53 (C_J9_min_7cf53 e4) rfl rfl rfl ?_
    obtain ⟨d2, e5, H⟩ := wp_b H
    refine dr_copyB dJ7_copyOf_9075b_28 cp_J7_150 rfl rfl rfl e5 ?_
    refine ql_a2 dJ7_copyOf_9075b_31 ?_
    replace H := wp_s H
    exact dr_aret dJ7_copyOf_9075b_32 rfl (Or.inr ⟨_, rfl⟩) H
  · replace H := wp_t c1 H
    refine ql_a0 dJ7_copyOf_9075b_6 ?_
    exact (wp_n H).elim
noncomputable def F_J5_ensureCapacityInternal_d00df (X : dm_X) (q0 : am_G × Nat) (x1 : Int32) (d : dm_D) : Option dm_D :=
  (dm_fr d q0 14 0).bind (fun w1 => (dm_ln X d w1).bind (fun a1 => (dm_fi d q0 14 1).bind (fun a2 => if (x1 - (a1 >>> (a2 &&& 31))) ≤ 0 then (some d) else ((dm_fr d q0 14 0).bind (fun w2 => (dm_rk d q0 14).bind (fun u1 => (F_J5_newCapacity_0f7a4 X q0 x1 d).bind (fun a3 => (dm_fi d q0 14 1).bind (fun a4 => (F_J7_copyOf_9075b X w2 (a3 <<< (a4 &&& 31)) d).bind (fun a5 => (dm_pu a5.2 q0 14 0 (.inr a5.1)).bind (fun d1 => some d1))))))))))
theorem C_J5_ensureCapacityInternal_d00df {X : dm_X} {q0 : am_G × Nat} {x1 : Int32} {h : am_H} {d : dm_D} {a : dm_D} (e : F_J5_ensureCapacityInternal_d00df X q0 x1 d = some a) : dm_Mx X yJ5_ensureCapacityInternal_d00df cJ5_ensureCapacityInternal_d00df 3 (none) 3 69 [.inr q0, am_i x1] h d none h a := by
  refine dm_M.ofx (A := [some (.inr q0), some (am_i x1), none]) (by decide +kernel) rfl (ble rfl) (fun Q hQ => ?_)
  have H : wp (F_J5_ensureCapacityInternal_d00df X q0 x1 d) (fun a => Q none h a) := ⟨_, e, hQ⟩
  unfold F_J5_ensureCapacityInternal_d00df at H
  refine ql_a0 dJ5_ensureCapacityInternal_d00df_0 ?_
  obtain ⟨w1, e1, H⟩ := wp_b H
  refine dr_getR dJ5_ensureCapacityInternal_d00df_1 fg_J5_15 e1 ?_
  obtain ⟨a1, e2, H⟩ := wp_b H
  refine dr_len dJ5_ensureCapacityInternal_d00df_4 e2 ?_
  refine ql_a0 dJ5_ensureCapacityInternal_d00df_5 ?_
  obtain ⟨a2, e3, H⟩ := wp_b H
  refine dr_getI dJ5_ensureCapacityInternal_d00df_6 fg_J5_22 e3 ?_
  refine dr_ishr dJ5_ensureCapacityInternal_d00df_9 ?_
  refine qs_i2 dJ5_ensureCapacityInternal_d00df_10 rfl trivial ?_
  refine ql_i1 dJ5_ensureCapacityInternal_d00df_11 ?_
  refine ql_i2 dJ5_ensureCapacityInternal_d00df_12 ?_
  refine dr_isub dJ5_ensureCapacityInternal_d00df_13 ?_
  refine dr_if_le 38 dJ5_ensureCapacityInternal_d00df_14 (by decide) (fun c1 => ?_) (fun c1 => ?_)
  · replace H := wp_t c1 H
    replace H := wp_s H
    exact dr_vret dJ5_ensureCapacityInternal_d00df_38 rfl H
  · replace H := wp_f c1 H
    refine ql_a0 dJ5_ensureCapacityInternal_d00df_17 ?_
    refine ql_a0 dJ5_ensureCapacityInternal_d00df_18 ?_
    obtain ⟨w2, e4, H⟩ := wp_b H
    refine dr_getR dJ5_ensureCapacityInternal_d00df_19 fg_J5_15 e4 ?_
    refine ql_a0 dJ5_ensureCapacityInternal_d00df_22 ?_
    refine ql_i1 dJ5_ensureCapacityInternal_d00df_23 ?_
    obtain ⟨u1, e6, H⟩ := wp_b H
    obtain ⟨a3, e5, H⟩ := wp_b H
    refine dc_Q1i dJ5_ensureCapacityInternal_d00df_24 ml_J5_104 mq_J5_newCapacity_0f7a4 (C_J5_newCapacity_0f7a4 e5) (dm_rk_some e6) rfl rfl rfl ?_
    refine ql_a0 dJ5_ensureCapacityInternal_d00df_27 ?_
    obtain ⟨a4, e7, H⟩ := wp_b H
    refine dr_getI dJ5_ensureCapacityInternal_d00df_28 fg_J5_22 e7 ?_
    refine dr_ishl dJ5_ensureCapacityInternal_d00df_31 ?_
    obtain ⟨a5, e8, H⟩ := wp_b H
    refine dc_S2r dJ5_ensureCapacityInternal_d00df_32 ml_J5_108 mc_J7_copyOf_9075b (C_J7_copyOf_9075b e8) rfl rfl rfl ?_
    obtain ⟨d1, e9, H⟩ := wp_b H
    refine dr_putR dJ5_ensureCapacityInternal_d00df_35 fg_J5_15 (fun _ => ⟨rfl, rfl⟩) e9 ?_
    replace H := wp_s H
    exact dr_vret dJ5_ensureCapacityInternal_d00df_38 rfl H
noncomputable def F_J5_inflateIfNeededFor_a7421 (X : dm_X) (q0 : am_G × Nat) (q1 : am_G × Nat) (d : dm_D) : Option Unit :=
  if (1 : Int32) = 0 then (some ()) else ((dm_fi d q0 14 1).bind (fun a1 => (dm_rk d q1 13).bind (fun u1 => (F_J0_coder_7d493 X q1 d).bind (fun a2 => if a1 = a2 then (some ()) else (none)))))
theorem C_J5_inflateIfNeededFor_a7421 {X : dm_X} {q0 : am_G × Nat} {q1 : am_G × Nat} {h : am_H} {d : dm_D} {a : Unit} (e : F_J5_inflateIfNeededFor_a7421 X q0 q1 d = some a) : dm_Mx X yJ5_inflateIfNeededFor_a7421 cJ5_inflateIfNeededFor_a7421 2 (none) 1 20 [.inr q0, .inr q1] h d none h d := by
  refine dm_M.ofx (A := [some (.inr q0), some (.inr q1)]) (by decide +kernel) rfl (ble rfl) (fun Q hQ => ?_)
  have H : wp (F_J5_inflateIfNeededFor_a7421 X q0 q1 d) (fun _ => Q none h d) := ⟨_, e, hQ⟩
  unfold F_J5_inflateIfNeededFor_a7421 at H
  refine dr_getsC dJ5_inflateIfNeededFor_a7421_0 fs_J5_18 ?_
  refine dr_if_eq 21 dJ5_inflateIfNeededFor_a7421_3 (by decide) (fun c1 => ?_) (fun c1 => ?_)
  · replace H := wp_t c1 H
    replace H := wp_s H
    exact dr_vret dJ5_inflateIfNeededFor_a7421_21 rfl H
  · replace H := wp_f c1 H
    refine ql_a0 dJ5_inflateIfNeededFor_a7421_6 ?_
    obtain ⟨a1, e1, H⟩ := wp_b H
    refine dr_getI dJ5_inflateIfNeededFor_a7421_7 fg_J5_22 e1 ?_
    refine ql_a1 dJ5_inflateIfNeededFor_a7421_10 ?_
    obtain ⟨u1, e3, H⟩ := wp_b H
    obtain ⟨a2, e2, H⟩ := wp_b H
    refine dc_V0i (C := (RJ0, TJ0, 4)) dJ5_inflateIfNeededFor_a7421_11 ml_J5_40 mc_J0_coder_7d493 (C_J0_coder_7d493 e2) (dm_rk_some e3) rfl rfl rfl rfl rfl ?_
    refine dr_ic_eq 21 dJ5_inflateIfNeededFor_a7421_14 (by decide) (fun c2 => ?_) (fun c2 => ?_)
    · replace H := wp_t c2 H
      replace H := wp_s H
      exact dr_vret dJ5_inflateIfNeededFor_a7421_21 rfl H
    · replace H := wp_f c2 H
      refine ql_a0 dJ5_inflateIfNeededFor_a7421_17 ?_
      exact (wp_n H).elim
noncomputable def F_J0_getBytes_840e7 (X : dm_X) (q0 : am_G × Nat) (q1 : am_G × Nat) (x2 : Int32) (x3 : Int32) (d : dm_D) : Option dm_D :=
  (dm_rk d q0 13).bind (fun u1 => (F_J0_coder_7d493 X q0 d).bind (fun a1 => if a1 = x3 then ((dm_sr d q0 0).bind (fun w1 => (dm_sr d q0 0).bind (fun w2 => (dm_ln X d w2).bind (fun a2 => (dm_cb d w1 (iI (0)) q1 (x2 <<< (x3 &&& 31)) a2).bind (fun d1 => some d1))))) else ((dm_sr d q0 0).bind (fun w1 => (dm_sr d q0 0).bind (fun w2 => (dm_ln X d w2).bind (fun a2 => none))))))
theorem C_J0_getBytes_840e7 {X : dm_X} {q0 : am_G × Nat} {q1 : am_G × Nat} {x2 : Int32} {x3 : Int32} {h : am_H} {d : dm_D} {a : dm_D} (e : F_J0_getBytes_840e7 X q0 q1 x2 x3 d = some a) : dm_Mx X yJ0_getBytes_840e7 cJ0_getBytes_840e7 4 (none) 1 26 [.inr q0, .inr q1, am_i x2, am_i x3] h d none h a := by
  refine dm_M.ofx (A := [some (.inr q0), some (.inr q1), some (am_i x2), some (am_i x3)]) (by decide +kernel) rfl (ble rfl) (fun Q hQ => ?_)
  have H : wp (F_J0_getBytes_840e7 X q0 q1 x2 x3 d) (fun a => Q none h a) := ⟨_, e, hQ⟩
  unfold F_J0_getBytes_840e7 at H
  refine ql_a0 dJ0_getBytes_840e7_0 ?_
  obtain ⟨u1, e2, H⟩ := wp_b H
  obtain ⟨a1, e1, H⟩ := wp_b H
  refine dc_V0i (C := (RJ0, TJ0, 4)) dJ0_getBytes_840e7_1 ml_J0_335 mc_J0_coder_7d493 (C_J0_coder_7d493 e1) (dm_rk_some e2) rfl rfl rfl rfl rfl ?_
  refine ql_i3 dJ0_getBytes_840e7_4 ?_
  refine dr_ic_ne 28 dJ0_getBytes_840e7_5 (by decide) (fun c1 => ?_) (fun c1 => ?_)
  · replace H := wp_f c1 H
    refine ql_a0 dJ0_getBytes_840e7_28 ?_
    obtain ⟨w1, e3, H⟩ := wp_b H
    refine dr_getSR dJ0_getBytes_840e7_29 (by decide) fs_J0_9 e3 ?_
    refine dr_iconst (iI (0)) dJ0_getBytes_840e7_32 rfl ?_
    refine ql_a1 dJ0_getBytes_840e7_33 ?_
    refine ql_i2 dJ0_getBytes_840e7_34 ?_
    refine ql_a0 dJ0_getBytes_840e7_35 ?_
    obtain ⟨w2, e4, H⟩ := wp_b H
    refine dr_getSR dJ0_getBytes_840e7_36 (by decide) fs_J0_9 e4 ?_
    obtain ⟨a2, e5, H⟩ := wp_b H
    refine dr_len dJ0_getBytes_840e7_39 e5 ?_
    exact (wp_n H).elim
  · replace H := wp_t c1 H
    refine ql_a0 dJ0_getBytes_840e7_8 ?_
    obtain ⟨w1, e3, H⟩ := wp_b H
    refine dr_getSR dJ0_getBytes_840e7_9 (by decide) fs_J0_9 e3 ?_
    refine dr_iconst (iI (0)) dJ0_getBytes_840e7_12 rfl ?_
    refine ql_a1 dJ0_getBytes_840e7_13 ?_
    refine ql_i2 dJ0_getBytes_840e7_14 ?_
    refine ql_i3 dJ0_getBytes_840e7_15 ?_
    refine dr_ishl dJ0_getBytes_840e7_16 ?_
    refine ql_a0 dJ0_getBytes_840e7_17 ?_
    obtain ⟨w2, e4, H⟩ := wp_b H
    refine dr_getSR dJ0_getBytes_840e7_18 (by decide) fs_J0_9 e4 ?_
    obtain ⟨a2, e5, H⟩ := wp_b H
    refine dr_len dJ0_getBytes_840e7_21 e5 ?_
    obtain ⟨d1, e6, H⟩ := wp_b H
    refine dr_copyB dJ0_getBytes_840e7_22 cp_J0_212 rfl rfl rfl e6 ?_
    refine dr_goto 43 dJ0_getBytes_840e7_25 (by decide) ?_
    replace H := wp_s H
    exact dr_vret dJ0_getBytes_840e7_43 rfl H
noncomputable def F_J5_putStringAt_47b60 (X : dm_X) (q0 : am_G × Nat) (x1 : Int32) (q2 : am_G × Nat) (d : dm_D) : Option dm_D :=
  (dm_rk d q0 14).bind (fun u1 => (F_J5_inflateIfNeededFor_a7421 X q0 q2 d).bind (fun a1 => (dm_fr d q0 14 0).bind (fun w1 => (dm_fi d q0 14 1).bind (fun a2 => (dm_rk d q2 13).bind (fun u2 => (F_J0_getBytes_840e7 X q2 w1 x1 a2 d).bind (fun a3 => some a3))))))
theorem C_J5_putStringAt_47b60 {X : dm_X} {q0 : am_G × Nat} {x1 : Int32} {q2 : am_G × Nat} {h : am_H} {d : dm_D} {a : dm_D} (e : F_J5_putStringAt_47b60 X q0 x1 q2 d = some a) : dm_Mx X yJ5_putStringAt_47b60 cJ5_putStringAt_47b60 3 (none) 2 49 [.inr q0, am_i x1, .inr q2] h d none h a := by
  refine dm_M.ofx (A := [some (.inr q0), some (am_i x1), some (.inr q2)]) (by decide +kernel) rfl (ble rfl) (fun Q hQ => ?_)
  have H : wp (F_J5_putStringAt_47b60 X q0 x1 q2 d) (fun a => Q none h a) := ⟨_, e, hQ⟩
  unfold F_J5_putStringAt_47b60 at H
  refine ql_a0 dJ5_putStringAt_47b60_0 ?_
  refine ql_a2 dJ5_putStringAt_47b60_1 ?_
  obtain ⟨u1, e2, H⟩ := wp_b H
  obtain ⟨a1, e1, H⟩ := wp_b H
  refine dc_Q1v dJ5_putStringAt_47b60_2 ml_J5_397 mq_J5_inflateIfNeededFor_a7421 (C_J5_inflateIfNeededFor_a7421 e1) (dm_rk_some e2) rfl rfl rfl ?_
  refine ql_a2 dJ5_putStringAt_47b60_5 ?_
  refine ql_a0 dJ5_putStringAt_47b60_6 ?_
  obtain ⟨w1, e3, H⟩ := wp_b H
  refine dr_getR dJ5_putStringAt_47b60_7 fg_J5_15 e3 ?_
  refine ql_i1 dJ5_putStringAt_47b60_10 ?_
  refine ql_a0 dJ5_putStringAt_47b60_11 ?_
  obtain ⟨a2, e4, H⟩ := wp_b H
  refine dr_getI dJ5_putStringAt_47b60_12 fg_J5_22 e4 ?_
  obtain ⟨u2, e6, H⟩ := wp_b H
  obtain ⟨a3, e5, H⟩ := wp_b H
  refine dc_V3v (C := (RJ0, TJ0, 4)) dJ5_putStringAt_47b60_15 ml_J5_399 mc_J0_getBytes_840e7 (C_J0_getBytes_840e7 e5) (dm_rk_some e6) rfl rfl rfl rfl rfl ?_
  replace H := wp_s H
  exact dr_vret dJ5_putStringAt_47b60_18 rfl H
noncomputable def F_J5_append_cf1ce (X : dm_X) (q0 : am_G × Nat) (q1 : am_G × Nat) (d : dm_D) : Option ((am_G × Nat) × dm_D) :=
  (dm_rk d q1 13).bind (fun u1 => (F_J0_length_8abf5 X q1 d).bind (fun a1 => (dm_fi d q0 14 3).bind (fun a2 => (dm_rk d q0 14).bind (fun u2 => (F_J5_ensureCapacityInternal_d00df X q0 (a2 + a1) d).bind (fun a3 => (dm_fi a3 q0 14 3).bind (fun a4 => (dm_rk a3 q0 14).bind (fun u3 => (F_J5_putStringAt_47b60 X q0 a4 q1 a3).bind (fun a5 => (dm_fi a5 q0 14 3).bind (fun a6 => (dm_pu a5 q0 14 3 (am_i (a6 + a1))).bind (fun d1 => some (q0, d1)))))))))))
theorem C_J5_append_cf1ce {X : dm_X} {q0 : am_G × Nat} {q1 : am_G × Nat} {h : am_H} {d : dm_D} {a : (am_G × Nat) × dm_D} (e : F_J5_append_cf1ce X q0 q1 d = some a) : dm_Mx X yJ5_append_cf1ce cJ5_append_cf1ce 3 (some (.object "java/lang/AbstractStringBuilder")) 4 91 [.inr q0, .inr q1] h d (some (.inr a.1)) h a.2 := by
  refine dm_M.ofx (A := [some (.inr q0), some (.inr q1), none]) (by decide +kernel) rfl (ble rfl) (fun Q hQ => ?_)
  have H : wp (F_J5_append_cf1ce X q0 q1 d) (fun a => Q (some (.inr a.1)) h a.2) := ⟨_, e, hQ⟩
  unfold F_J5_append_cf1ce at H
  refine ql_a1 dJ5_append_cf1ce_0 ?_
  refine dr_ifnonnull 9 dJ5_append_cf1ce_1 (by decide) ?_
  refine ql_a1 dJ5_append_cf1ce_9 ?_
  obtain ⟨u1, e2, H⟩ := wp_b H
  obtain ⟨a1, e1, H⟩ := wp_b H
  refine dc_V0i (C := (RJ0, TJ0, 4)) dJ5_append_cf1ce_10 ml_J5_32 mc_J0_length_8abf5 (C_J0_length_8abf5 e1) (dm_rk_some e2) rfl rfl rfl rfl rfl ?_
  refine qs_i2 dJ5_append_cf1ce_13 rfl trivial ?_
  refine ql_a0 dJ5_append_cf1ce_14 ?_
  refine ql_a0 dJ5_append_cf1ce_15 ?_
  obtain ⟨a2, e3, H⟩ := wp_b H
  refine dr_getI dJ5_append_cf1ce_16 fg_J5_79 e3 ?_
  refine ql_i2 dJ5_append_cf1ce_19 ?_
  refine dr_iadd dJ5_append_cf1ce_20 ?_
  obtain ⟨u2, e5, H⟩ := wp_b H
  obtain ⟨a3, e4, H⟩ := wp_b H
  refine dc_Q1v dJ5_append_cf1ce_21 ml_J5_100 mq_J5_ensureCapacityInternal_d00df (C_J5_ensureCapacityInternal_d00df e4) (dm_rk_some e5) rfl rfl rfl ?_
  refine ql_a0 dJ5_append_cf1ce_24 ?_
  refine ql_a0 dJ5_append_cf1ce_25 ?_
  obtain ⟨a4, e6, H⟩ := wp_b H
  refine dr_getI dJ5_append_cf1ce_26 fg_J5_79 e6 ?_
  refine ql_a1 dJ5_append_cf1ce_29 ?_
  obtain ⟨u3, e8, H⟩ := wp_b H
  obtain ⟨a5, e7, H⟩ := wp_b H
  refine dc_Q2v dJ5_append_cf1ce_30 ml_J5_208 mq_J5_putStringAt_47b60 (C_J5_putStringAt_47b60 e7) (dm_rk_some e8) rfl rfl rfl ?_
  refine ql_a0 dJ5_append_cf1ce_33 ?_
  refine dr_dup dJ5_append_cf1ce_34 trivial ?_
  obtain ⟨a6, e9, H⟩ := wp_b H
  refine dr_getI dJ5_append_cf1ce_35 fg_J5_79 e9 ?_
  refine ql_i2 dJ5_append_cf1ce_38 ?_
  refine dr_iadd dJ5_append_cf1ce_39 ?_
  obtain ⟨d1, e10, H⟩ := wp_b H
  refine dr_putI dJ5_append_cf1ce_40 fg_J5_79 rfl rfl e10 ?_
  refine ql_a0 dJ5_append_cf1ce_43 ?_
  replace H := wp_s H
  exact dr_aret dJ5_append_cf1ce_44 rfl (Or.inl ⟨_, rfl⟩) H
noncomputable def F_J4_append_15ec4 (X : dm_X) (q0 : am_G × Nat) (q1 : am_G × Nat) (d : dm_D) : Option ((am_G × Nat) × dm_D) :=
  (dm_rk d q0 14).bind (fun u1 => (F_J5_append_cf1ce X q0 q1 d).bind (fun a1 => some (q0, a1.2)))
theorem C_J4_append_15ec4 {X : dm_X} {q0 : am_G × Nat} {q1 : am_G × Nat} {h : am_H} {d : dm_D} {a : (am_G × Nat) × dm_D} (e : F_J4_append_15ec4 X q0 q1 d = some a) : dm_Mx X yJ4_append_15ec4 cJ4_append_15ec4 2 (some (.object "java/lang/StringBuilder")) 5 113 [.inr q0, .inr q1] h d (some (.inr a.1)) h a.2 := by
  refine dm_M.ofx (A := [some (.inr q0), some (.inr q1)]) (by decide +kernel) rfl (ble rfl) (fun Q hQ => ?_)
  have H : wp (F_J4_append_15ec4 X q0 q1 d) (fun a => Q (some (.inr a.1)) h a.2) := ⟨_, e, hQ⟩
  unfold F_J4_append_15ec4 at H
  refine ql_a0 dJ4_append_15ec4_0 ?_
  refine ql_a1 dJ4_append_15ec4_1 ?_
  obtain ⟨u1, e2, H⟩ := wp_b H
  obtain ⟨a1, e1, H⟩ := wp_b H
  refine dc_P1r (C := (RJ4, TJ4, 4)) dJ4_append_15ec4_2 ml_J4_29 mp_J5_append_cf1ce (C_J5_append_cf1ce e1) (dm_rk_some e2) rfl rfl rfl rfl ?_
  refine dr_pop dJ4_append_15ec4_5 trivial ?_
  refine ql_a0 dJ4_append_15ec4_6 ?_
  replace H := wp_s H
  exact dr_aret dJ4_append_15ec4_7 rfl (Or.inl ⟨_, rfl⟩) H
noncomputable def S_J6_stringSize_0f7a4  : dm_S Unit → Option (dm_S Unit ⊕ Int32) := fun s => match s with
  | (16, [x0, x1, x2, x3], [], ()) => if (iI (10)) ≤ x3 then (some (.inr ((iI (10)) + x1))) else (if x0 ≤ x2 then (some (.inl (16, [x0, x1, ((iI (10)) * x2), (x3 + 1)], [], ()))) else (some (.inr (x3 + x1))))
  | _ => none
noncomputable def F_J6_stringSize_0f7a4_16 (x0 : Int32) (x1 : Int32) (x2 : Int32) (x3 : Int32) : Option Int32 := lp (S_J6_stringSize_0f7a4) (16, [x0, x1, x2, x3], [], ())
theorem E_J6_stringSize_0f7a4_16 (x0 : Int32) (x1 : Int32) (x2 : Int32) (x3 : Int32) : F_J6_stringSize_0f7a4_16 x0 x1 x2 x3 = (if (iI (10)) ≤ x3 then (some ((iI (10)) + x1)) else (if x0 ≤ x2 then (F_J6_stringSize_0f7a4_16 x0 x1 ((iI (10)) * x2) (x3 + 1)) else (some (x3 + x1)))) := by
  show lp _ _ = _
  rw [lp_eq, S_J6_stringSize_0f7a4]
  simp only [lpk_i, lpk_b, lpk_n, lpk_j, lpk_r] <;> rfl
noncomputable def F_J6_stringSize_0f7a4 (x0 : Int32) : Option Int32 :=
  if x0 < 0 then (F_J6_stringSize_0f7a4_16 x0 (iI (1)) (iI (-10)) (iI (1))) else (F_J6_stringSize_0f7a4_16 (- x0) (iI (0)) (iI (-10)) (iI (1)))
theorem C_J6_stringSize_0f7a4_L {X : dm_X} {h : am_H} {d : dm_D} {k0 : Nat} {Q : Option am_v → am_H → dm_D → Prop} : ∀ s, wp (lp (S_J6_stringSize_0f7a4) s) (fun a => Q (some (am_i a)) h d) → ((∀ x0 x1 x2 x3, s = (16, [x0, x1, x2, x3], [], ()) → dm_V RJ6 "stringSize" cJ6_stringSize_0f7a4 4 (some .int) 0 0 k0 X (dm_Tm cJ6_stringSize_0f7a4 (some .int) Q) 16 [some (am_i x0), some (am_i x1), some (am_i x2), some (am_i x3)] [] h d)) := by
  refine lp_ind _ _ (fun s H => fun x0 x1 x2 x3 e => ?_)
  · subst e
    rw [S_J6_stringSize_0f7a4] at H
    refine ql_i3 dJ6_stringSize_0f7a4_16 ?_
    refine dr_bipush (iI (10)) dJ6_stringSize_0f7a4_17 rfl ?_
    refine dr_ic_ge 42 dJ6_stringSize_0f7a4_19 (by decide) (fun c1 => ?_) (fun c1 => ?_)
    · replace H := wp_t c1 H
      refine dr_bipush (iI (10)) dJ6_stringSize_0f7a4_42 rfl ?_
      refine ql_i1 dJ6_stringSize_0f7a4_44 ?_
      refine dr_iadd dJ6_stringSize_0f7a4_45 ?_
      replace H := lp_re H
      exact dr_iret dJ6_stringSize_0f7a4_46 rfl rfl H
    · replace H := wp_f c1 H
      refine ql_i0 dJ6_stringSize_0f7a4_22 ?_
      refine ql_i2 dJ6_stringSize_0f7a4_23 ?_
      refine dr_ic_le 31 dJ6_stringSize_0f7a4_24 (by decide) (fun c2 => ?_) (fun c2 => ?_)
      · replace H := wp_t c2 H
        refine dr_bipush (iI (10)) dJ6_stringSize_0f7a4_31 rfl ?_
        refine ql_i2 dJ6_stringSize_0f7a4_33 ?_
        refine dr_imul dJ6_stringSize_0f7a4_34 ?_
        refine qs_i2 dJ6_stringSize_0f7a4_35 rfl trivial ?_
        refine qn_1_3 dJ6_stringSize_0f7a4_36 rfl trivial ?_
        refine dr_goto 16 dJ6_stringSize_0f7a4_39 (by decide) ?_
        exact dr_wk (am_s (am_s (am_s (am_s am_0)))) ((lp_in H) _ _ _ _ rfl)
      · replace H := wp_f c2 H
        refine ql_i3 dJ6_stringSize_0f7a4_27 ?_
        refine ql_i1 dJ6_stringSize_0f7a4_28 ?_
        refine dr_iadd dJ6_stringSize_0f7a4_29 ?_
        replace H := lp_re H
        exact dr_iret dJ6_stringSize_0f7a4_30 rfl rfl H
theorem C_J6_stringSize_0f7a4 {X : dm_X} {x0 : Int32} {h : am_H} {d : dm_D} {a : Int32} (e : F_J6_stringSize_0f7a4 x0 = some a) : dm_Mx X yJ6_stringSize_0f7a4 cJ6_stringSize_0f7a4 4 (some .int) 0 0 [am_i x0] h d (some (am_i a)) h d := by
  refine dm_M.ofx (A := [some (am_i x0), none, none, none]) (by decide +kernel) rfl (ble rfl) (fun Q hQ => ?_)
  have H : wp (F_J6_stringSize_0f7a4 x0) (fun a => Q (some (am_i a)) h d) := ⟨_, e, hQ⟩
  unfold F_J6_stringSize_0f7a4 at H
  refine dr_iconst (iI (1)) dJ6_stringSize_0f7a4_0 rfl ?_
  refine qs_i1 dJ6_stringSize_0f7a4_1 rfl trivial ?_
  refine ql_i0 dJ6_stringSize_0f7a4_2 ?_
  refine dr_if_lt 11 dJ6_stringSize_0f7a4_3 (by decide) (fun c1 => ?_) (fun c1 => ?_)
  · replace H := wp_t c1 H
    refine dr_bipush (iI (-10)) dJ6_stringSize_0f7a4_11 rfl ?_
    refine qs_i2 dJ6_stringSize_0f7a4_13 rfl trivial ?_
    refine dr_iconst (iI (1)) dJ6_stringSize_0f7a4_14 rfl ?_
    refine qs_i3 dJ6_stringSize_0f7a4_15 rfl trivial ?_
    exact dr_wk (am_s (am_s (am_s (am_s am_0)))) ((C_J6_stringSize_0f7a4_L _ H) _ _ _ _ rfl)
  · replace H := wp_f c1 H
    refine dr_iconst (iI (0)) dJ6_stringSize_0f7a4_6 rfl ?_
    refine qs_i1 dJ6_stringSize_0f7a4_7 rfl trivial ?_
    refine ql_i0 dJ6_stringSize_0f7a4_8 ?_
    refine dr_ineg dJ6_stringSize_0f7a4_9 ?_
    refine qs_i0 dJ6_stringSize_0f7a4_10 rfl ?_
    refine dr_bipush (iI (-10)) dJ6_stringSize_0f7a4_11 rfl ?_
    refine qs_i2 dJ6_stringSize_0f7a4_13 rfl trivial ?_
    refine dr_iconst (iI (1)) dJ6_stringSize_0f7a4_14 rfl ?_
    refine qs_i3 dJ6_stringSize_0f7a4_15 rfl trivial ?_
    exact dr_wk (am_s (am_s (am_s (am_s am_0)))) ((C_J6_stringSize_0f7a4_L _ H) _ _ _ _ rfl)
noncomputable def F_J5_isLatin1_aae02 (X : dm_X) (q0 : am_G × Nat) (d : dm_D) : Option Int32 :=
  if (1 : Int32) = 0 then (some (iI (0))) else ((dm_fi d q0 14 1).bind (fun a1 => if a1 = 0 then (some (iI (1))) else (some (iI (0)))))
theorem C_J5_isLatin1_aae02 {X : dm_X} {q0 : am_G × Nat} {h : am_H} {d : dm_D} {a : Int32} (e : F_J5_isLatin1_aae02 X q0 d = some a) : dm_Mx X yJ5_isLatin1_aae02 cJ5_isLatin1_aae02 1 (some .boolean) 0 0 [.inr q0] h d (some (am_i a)) h d := by
  refine dm_M.ofx (A := [some (.inr q0)]) (by decide +kernel) rfl (ble rfl) (fun Q hQ => ?_)
  have H : wp (F_J5_isLatin1_aae02 X q0 d) (fun a => Q (some (am_i a)) h d) := ⟨_, e, hQ⟩
  unfold F_J5_isLatin1_aae02 at H
  refine dr_getsC dJ5_isLatin1_aae02_0 fs_J5_18 ?_
  refine dr_if_eq 17 dJ5_isLatin1_aae02_3 (by decide) (fun c1 => ?_) (fun c1 => ?_)
  · replace H := wp_t c1 H
    refine dr_iconst (iI (0)) dJ5_isLatin1_aae02_17 rfl ?_
    replace H := wp_s H
    exact dr_iret dJ5_isLatin1_aae02_18 rfl rfl H
  · replace H := wp_f c1 H
    refine ql_a0 dJ5_isLatin1_aae02_6 ?_
    obtain ⟨a1, e1, H⟩ := wp_b H
    refine dr_getI dJ5_isLatin1_aae02_7 fg_J5_22 e1 ?_
    refine dr_if_ne 17 dJ5_isLatin1_aae02_10 (by decide) (fun c2 => ?_) (fun c2 => ?_)
    · replace H := wp_f c2 H
      refine dr_iconst (iI (0)) dJ5_isLatin1_aae02_17 rfl ?_
      replace H := wp_s H
      exact dr_iret dJ5_isLatin1_aae02_18 rfl rfl H
    · replace H := wp_t c2 H
      refine dr_iconst (iI (1)) dJ5_isLatin1_aae02_13 rfl ?_
      refine dr_goto 18 dJ5_isLatin1_aae02_14 (by decide) ?_
      replace H := wp_s H
      exact dr_iret dJ5_isLatin1_aae02_18 rfl rfl H
noncomputable def S_J6_getChars_ba4f3 (X : dm_X)  : dm_S dm_D → Option (dm_S dm_D ⊕ (Int32 × dm_D)) := fun s => match s with
  | (22, [x0, x5, x6], [q2], d) => if (iI (-100)) < x0 then ((dm_lb d (.inl 4, 1) (- x0)).bind (fun a1 => (dm_wi d q2 1 (x5 + iI (-1)) (vp_nar .byte a1)).bind (fun d1 => if (iI (-9)) ≤ x0 then (some (.inl (104, [(x5 + iI (-1)), x6], [q2], d1))) else ((dm_lb d1 (.inl 4, 2) (- x0)).bind (fun a2 => (dm_wi d1 q2 1 ((x5 + iI (-1)) + iI (-1)) (vp_nar .byte a2)).bind (fun d2 => some (.inl (104, [((x5 + iI (-1)) + iI (-1)), x6], [q2], d2)))))))) else (if (iI (100)) = 0 then none else ((dm_lb d (.inl 4, 1) (((x0 / (iI (100))) * (iI (100))) - x0)).bind (fun a1 => (dm_wi d q2 1 (x5 + iI (-1)) (vp_nar .byte a1)).bind (fun d1 => (dm_lb d1 (.inl 4, 2) (((x0 / (iI (100))) * (iI (100))) - x0)).bind (fun a2 => (dm_wi d1 q2 1 ((x5 + iI (-1)) + iI (-1)) (vp_nar .byte a2)).bind (fun d2 => some (.inl (22, [(x0 / (iI (100))), ((x5 + iI (-1)) + iI (-1)), x6], [q2], d2))))))))
  | (104, [x5, x6], [q2], d) => if x6 = 0 then (some (.inr (x5, d))) else ((dm_wi d q2 1 (x5 + iI (-1)) (vp_nar .byte (iI (45)))).bind (fun d1 => some (.inr ((x5 + iI (-1)), d1))))
  | _ => none
noncomputable def F_J6_getChars_ba4f3_22 (X : dm_X) (x0 : Int32) (q2 : am_G × Nat) (x5 : Int32) (x6 : Int32) (d : dm_D) : Option (Int32 × dm_D) := lp (S_J6_getChars_ba4f3 X) (22, [x0, x5, x6], [q2], d)
noncomputable def F_J6_getChars_ba4f3_104 (X : dm_X) (q2 : am_G × Nat) (x5 : Int32) (x6 : Int32) (d : dm_D) : Option (Int32 × dm_D) := lp (S_J6_getChars_ba4f3 X) (104, [x5, x6], [q2], d)
theorem E_J6_getChars_ba4f3_22 (X : dm_X) (x0 : Int32) (q2 : am_G × Nat) (x5 : Int32) (x6 : Int32) (d : dm_D) : F_J6_getChars_ba4f3_22 X x0 q2 x5 x6 d = (if (iI (-100)) < x0 then ((dm_lb d (.inl 4, 1) (- x0)).bind (fun a1 => (dm_wi d q2 1 (x5 + iI (-1)) (vp_nar .byte a1)).bind (fun d1 => if (iI (-9)) ≤ x0 then (F_J6_getChars_ba4f3_104 X q2 (x5 + iI (-1)) x6 d1) else ((dm_lb d1 (.inl 4, 2) (- x0)).bind (fun a2 => (dm_wi d1 q2 1 ((x5 + iI (-1)) + iI (-1)) (vp_nar .byte a2)).bind (fun d2 => F_J6_getChars_ba4f3_104 X q2 ((x5 + iI (-1)) + iI (-1)) x6 d2)))))) else (if (iI (100)) = 0 then none else ((dm_lb d (.inl 4, 1) (((x0 / (iI (100))) * (iI (100))) - x0)).bind (fun a1 => (dm_wi d q2 1 (x5 + iI (-1)) (vp_nar .byte a1)).bind (fun d1 => (dm_lb d1 (.inl 4, 2) (((x0 / (iI (100))) * (iI (100))) - x0)).bind (fun a2 => (dm_wi d1 q2 1 ((x5 + iI (-1)) + iI (-1)) (vp_nar .byte a2)).bind (fun d2 => F_J6_getChars_ba4f3_22 X (x0 / (iI (100))) q2 ((x5 + iI (-1)) + iI (-1)) x6 d2))))))) := by
  show lp _ _ = _
  rw [lp_eq, S_J6_getChars_ba4f3]
  simp only [lpk_i, lpk_b, lpk_n, lpk_j, lpk_r] <;> rfl
theorem E_J6_getChars_ba4f3_104 (X : dm_X) (q2 : am_G × Nat) (x5 : Int32) (x6 : Int32) (d : dm_D) : F_J6_getChars_ba4f3_104 X q2 x5 x6 d = (if x6 = 0 then (some (x5, d)) else ((dm_wi d q2 1 (x5 + iI (-1)) (vp_nar .byte (iI (45)))).bind (fun d1 => some ((x5 + iI (-1)), d1)))) := by
  show lp _ _ = _
  rw [lp_eq, S_J6_getChars_ba4f3]
  simp only [lpk_i, lpk_b, lpk_n, lpk_j, lpk_r] <;> rfl
noncomputable def F_J6_getChars_ba4f3 (X : dm_X) (x0 : Int32) (x1 : Int32) (q2 : am_G × Nat) (d : dm_D) : Option (Int32 × dm_D) :=
  if 0 ≤ x0 then (if (iI (0)) = 0 then (F_J6_getChars_ba4f3_22 X (- x0) q2 x1 (iI (0)) d) else (F_J6_getChars_ba4f3_22 X x0 q2 x1 (iI (0)) d)) else (if (iI (1)) = 0 then (F_J6_getChars_ba4f3_22 X (- x0) q2 x1 (iI (1)) d) else (F_J6_getChars_ba4f3_22 X x0 q2 x1 (iI (1)) d))
theorem C_J6_getChars_ba4f3_L {X : dm_X} {h : am_H} {k0 : Nat} {Q : Option am_v → am_H → dm_D → Prop} : ∀ s, wp (lp (S_J6_getChars_ba4f3 X) s) (fun a => Q (some (am_i a.1)) h a.2) → ((∀ x0 q2 x5 x6 d, s = (22, [x0, x5, x6], [q2], d) → dm_V RJ6 "getChars" cJ6_getChars_ba4f3 7 (some .int) 0 0 k0 X (dm_Tm cJ6_getChars_ba4f3 (some .int) Q) 22 [some (am_i x0), none, some (.inr q2), none, none, some (am_i x5), some (am_i x6)] [] h d) ∧ (∀ q2 x5 x6 d, s = (104, [x5, x6], [q2], d) → dm_V RJ6 "getChars" cJ6_getChars_ba4f3 7 (some .int) 0 0 k0 X (dm_Tm cJ6_getChars_ba4f3 (some .int) Q) 104 [none, none, some (.inr q2), none, none, some (am_i x5), some (am_i x6)] [] h d)) := by
  refine lp_ind _ _ (fun s H => ⟨fun x0 q2 x5 x6 d e => ?_, fun q2 x5 x6 d e => ?_⟩)
  · subst e
    rw [S_J6_getChars_ba4f3] at H
    refine ql_i0 dJ6_getChars_ba4f3_22 ?_
    refine dr_bipush (iI (-100)) dJ6_getChars_ba4f3_23 rfl ?_
    refine dr_ic_gt 72 dJ6_getChars_ba4f3_25 (by decide) (fun c1 => ?_) (fun c1 => ?_)
    · replace H := wp_t c1 H
      refine ql_a2 dJ6_getChars_ba4f3_72 ?_
      refine qn_m_5 (v := x5 + iI (-1)) dJ6_getChars_ba4f3_73 rfl trivial rfl ?_
      refine ql_i5 dJ6_getChars_ba4f3_76 ?_
      refine dr_gets1 dJ6_getChars_ba4f3_78 fs_J6_83 ?_
      refine ql_i0 dJ6_getChars_ba4f3_81 ?_
      refine dr_ineg dJ6_getChars_ba4f3_82 ?_
      obtain ⟨a1, e1, H⟩ := wp_b H
      refine dr_bald dJ6_getChars_ba4f3_83 e1 ?_
      obtain ⟨d1, e2, H⟩ := wp_b H
      refine dr_bast dJ6_getChars_ba4f3_84 e2 ?_
      refine ql_i0 dJ6_getChars_ba4f3_85 ?_
      refine dr_bipush (iI (-9)) dJ6_getChars_ba4f3_86 rfl ?_
      refine dr_ic_ge 104 dJ6_getChars_ba4f3_88 (by decide) (fun c2 => ?_) (fun c2 => ?_)
      · replace H := wp_t c2 H
        exact dr_wk (am_n (am_n (am_s (am_n (am_n (am_s (am_s am_0))))))) ((lp_in H).2 _ _ _ _ rfl)
      · replace H := wp_f c2 H
        refine ql_a2 dJ6_getChars_ba4f3_91 ?_
        refine qn_m_5 (v := (x5 + iI (-1)) + iI (-1)) dJ6_getChars_ba4f3_92 rfl trivial rfl ?_
        refine ql_i5 dJ6_getChars_ba4f3_95 ?_
        refine dr_gets2 dJ6_getChars_ba4f3_97 fs_J6_87 ?_
        refine ql_i0 dJ6_getChars_ba4f3_100 ?_
        refine dr_ineg dJ6_getChars_ba4f3_101 ?_
        obtain ⟨a2, e3, H⟩ := wp_b H
        refine dr_bald dJ6_getChars_ba4f3_102 e3 ?_
        obtain ⟨d2, e4, H⟩ := wp_b H
        refine dr_bast dJ6_getChars_ba4f3_103 e4 ?_
        exact dr_wk (am_n (am_n (am_s (am_n (am_n (am_s (am_s am_0))))))) ((lp_in H).2 _ _ _ _ rfl)
    · replace H := wp_f c1 H
      refine ql_i0 dJ6_getChars_ba4f3_28 ?_
      refine dr_bipush (iI (100)) dJ6_getChars_ba4f3_29 rfl ?_
      obtain ⟨b1, H⟩ := wp_d H
      refine dr_idiv dJ6_getChars_ba4f3_31 b1 ?_
      refine qs_i3 dJ6_getChars_ba4f3_32 rfl trivial ?_
      refine ql_i3 dJ6_getChars_ba4f3_33 ?_
      refine dr_bipush (iI (100)) dJ6_getChars_ba4f3_34 rfl ?_
      refine dr_imul dJ6_getChars_ba4f3_36 ?_
      refine ql_i0 dJ6_getChars_ba4f3_37 ?_
      refine dr_isub dJ6_getChars_ba4f3_38 ?_
      refine qs_i4 dJ6_getChars_ba4f3_39 rfl trivial ?_
      refine ql_i3 dJ6_getChars_ba4f3_41 ?_
      refine qs_i0 dJ6_getChars_ba4f3_42 rfl ?_
      refine ql_a2 dJ6_getChars_ba4f3_43 ?_
      refine qn_m_5 (v := x5 + iI (-1)) dJ6_getChars_ba4f3_44 rfl trivial rfl ?_
      refine ql_i5 dJ6_getChars_ba4f3_47 ?_
      refine dr_gets1 dJ6_getChars_ba4f3_49 fs_J6_83 ?_
      refine ql_i4 dJ6_getChars_ba4f3_52 ?_
      obtain ⟨a1, e1, H⟩ := wp_b H
      refine dr_bald dJ6_getChars_ba4f3_54 e1 ?_
      obtain ⟨d1, e2, H⟩ := wp_b H
      refine dr_bast dJ6_getChars_ba4f3_55 e2 ?_
      refine ql_a2 dJ6_getChars_ba4f3_56 ?_
      refine qn_m_5 (v := (x5 + iI (-1)) + iI (-1)) dJ6_getChars_ba4f3_57 rfl trivial rfl ?_
      refine ql_i5 dJ6_getChars_ba4f3_60 ?_
      refine dr_gets2 dJ6_getChars_ba4f3_62 fs_J6_87 ?_
      refine ql_i4 dJ6_getChars_ba4f3_65 ?_
      obtain ⟨a2, e3, H⟩ := wp_b H
      refine dr_bald dJ6_getChars_ba4f3_67 e3 ?_
      obtain ⟨d2, e4, H⟩ := wp_b H
      refine dr_bast dJ6_getChars_ba4f3_68 e4 ?_
      refine dr_goto 22 dJ6_getChars_ba4f3_69 (by decide) ?_
      exact dr_wk (am_s (am_n (am_s (am_n (am_n (am_s (am_s am_0))))))) ((lp_in H).1 _ _ _ _ _ rfl)
  · subst e
    rw [S_J6_getChars_ba4f3] at H
    refine ql_i6 dJ6_getChars_ba4f3_104 ?_
    refine dr_if_eq 118 dJ6_getChars_ba4f3_106 (by decide) (fun c1 => ?_) (fun c1 => ?_)
    · replace H := wp_t c1 H
      refine ql_i5 dJ6_getChars_ba4f3_118 ?_
      replace H := lp_re H
      exact dr_iret dJ6_getChars_ba4f3_120 rfl rfl H
    · replace H := wp_f c1 H
      refine ql_a2 dJ6_getChars_ba4f3_109 ?_
      refine qn_m_5 (v := x5 + iI (-1)) dJ6_getChars_ba4f3_110 rfl trivial rfl ?_
      refine ql_i5 dJ6_getChars_ba4f3_113 ?_
      refine dr_bipush (iI (45)) dJ6_getChars_ba4f3_115 rfl ?_
      obtain ⟨d1, e1, H⟩ := wp_b H
      refine dr_bast dJ6_getChars_ba4f3_117 e1 ?_
      refine ql_i5 dJ6_getChars_ba4f3_118 ?_
      replace H := lp_re H
      exact dr_iret dJ6_getChars_ba4f3_120 rfl rfl H
theorem C_J6_getChars_ba4f3 {X : dm_X} {x0 : Int32} {x1 : Int32} {q2 : am_G × Nat} {h : am_H} {d : dm_D} {a : Int32 × dm_D} (e : F_J6_getChars_ba4f3 X x0 x1 q2 d = some a) : dm_Mx X yJ6_getChars_ba4f3 cJ6_getChars_ba4f3 7 (some .int) 0 0 [am_i x0, am_i x1, .inr q2] h d (some (am_i a.1)) h a.2 := by
  refine dm_M.ofx (A := [some (am_i x0), some (am_i x1), some (.inr q2), none, none, none, none]) (by decide +kernel) rfl (ble rfl) (fun Q hQ => ?_)
  have H : wp (F_J6_getChars_ba4f3 X x0 x1 q2 d) (fun a => Q (some (am_i a.1)) h a.2) := ⟨_, e, hQ⟩
  unfold F_J6_getChars_ba4f3 at H
  refine ql_i1 dJ6_getChars_ba4f3_0 ?_
  refine qs_i5 dJ6_getChars_ba4f3_1 rfl trivial ?_
  refine ql_i0 dJ6_getChars_ba4f3_3 ?_
  refine dr_if_ge 11 dJ6_getChars_ba4f3_4 (by decide) (fun c1 => ?_) (fun c1 => ?_)
  · replace H := wp_t c1 H
    refine dr_iconst (iI (0)) dJ6_getChars_ba4f3_11 rfl ?_
    refine qs_i6 dJ6_getChars_ba4f3_12 rfl trivial ?_
    refine ql_i6 dJ6_getChars_ba4f3_14 ?_
    refine dr_if_ne 22 dJ6_getChars_ba4f3_16 (by decide) (fun c2 => ?_) (fun c2 => ?_)
    · replace H := wp_f c2 H
      exact dr_wk (am_s (am_n (am_s (am_n (am_n (am_s (am_s am_0))))))) ((C_J6_getChars_ba4f3_L _ H).1 _ _ _ _ _ rfl)
    · replace H := wp_t c2 H
      refine ql_i0 dJ6_getChars_ba4f3_19 ?_
      refine dr_ineg dJ6_getChars_ba4f3_20 ?_
      refine qs_i0 dJ6_getChars_ba4f3_21 rfl ?_
      exact dr_wk (am_s (am_n (am_s (am_n (am_n (am_s (am_s am_0))))))) ((C_J6_getChars_ba4f3_L _ H).1 _ _ _ _ _ rfl)
  · replace H := wp_f c1 H
    refine dr_iconst (iI (1)) dJ6_getChars_ba4f3_7 rfl ?_
    refine dr_goto 12 dJ6_getChars_ba4f3_8 (by decide) ?_
    refine qs_i6 dJ6_getChars_ba4f3_12 rfl trivial ?_
    refine ql_i6 dJ6_getChars_ba4f3_14 ?_
    refine dr_if_ne 22 dJ6_getChars_ba4f3_16 (by decide) (fun c2 => ?_) (fun c2 => ?_)
    · replace H := wp_f c2 H
      exact dr_wk (am_s (am_n (am_s (am_n (am_n (am_s (am_s am_0))))))) ((C_J6_getChars_ba4f3_L _ H).1 _ _ _ _ _ rfl)
    · replace H := wp_t c2 H
      refine ql_i0 dJ6_getChars_ba4f3_19 ?_
      refine dr_ineg dJ6_getChars_ba4f3_20 ?_
      refine qs_i0 dJ6_getChars_ba4f3_21 rfl ?_
      exact dr_wk (am_s (am_n (am_s (am_n (am_n (am_s (am_s am_0))))))) ((C_J6_getChars_ba4f3_L _ H).1 _ _ _ _ _ rfl)
noncomputable def F_J5_append_c97b9 (X : dm_X) (q0 : am_G × Nat) (x1 : Int32) (d : dm_D) : Option ((am_G × Nat) × dm_D) :=
  (dm_fi d q0 14 3).bind (fun a1 => (F_J6_stringSize_0f7a4 x1).bind (fun a2 => (dm_rk d q0 14).bind (fun u1 => (F_J5_ensureCapacityInternal_d00df X q0 (a1 + a2) d).bind (fun a3 => (dm_rk a3 q0 14).bind (fun u2 => (F_J5_isLatin1_aae02 X q0 a3).bind (fun a4 => if a4 = 0 then ((dm_fr a3 q0 14 0).bind (fun w1 => none)) else ((dm_fr a3 q0 14 0).bind (fun w1 => (F_J6_getChars_ba4f3 X x1 (a1 + a2) w1 a3).bind (fun a5 => (dm_pu a5.2 q0 14 3 (am_i (a1 + a2))).bind (fun d1 => some (q0, d1)))))))))))
theorem C_J5_append_c97b9 {X : dm_X} {q0 : am_G × Nat} {x1 : Int32} {h : am_H} {d : dm_D} {a : (am_G × Nat) × dm_D} (e : F_J5_append_c97b9 X q0 x1 d = some a) : dm_Mx X yJ5_append_c97b9 cJ5_append_c97b9 4 (some (.object "java/lang/AbstractStringBuilder")) 4 91 [.inr q0, am_i x1] h d (some (.inr a.1)) h a.2 := by
  refine dm_M.ofx (A := [some (.inr q0), some (am_i x1), none, none]) (by decide +kernel) rfl (ble rfl) (fun Q hQ => ?_)
  have H : wp (F_J5_append_c97b9 X q0 x1 d) (fun a => Q (some (.inr a.1)) h a.2) := ⟨_, e, hQ⟩
  unfold F_J5_append_c97b9 at H
  refine ql_a0 dJ5_append_c97b9_0 ?_
  obtain ⟨a1, e1, H⟩ := wp_b H
  refine dr_getI dJ5_append_c97b9_1 fg_J5_79 e1 ?_
  refine qs_i2 dJ5_append_c97b9_4 rfl trivial ?_
  refine ql_i2 dJ5_append_c97b9_5 ?_
  refine ql_i1 dJ5_append_c97b9_6 ?_
  obtain ⟨a2, e2, H⟩ := wp_b H
  refine dc_S1i dJ5_append_c97b9_7 ml_J5_245 mc_J6_stringSize_0f7a4 (C_J6_stringSize_0f7a4 e2) rfl rfl rfl ?_
  refine dr_iadd dJ5_append_c97b9_10 ?_
  refine qs_i3 dJ5_append_c97b9_11 rfl trivial ?_
  refine ql_a0 dJ5_append_c97b9_12 ?_
  refine ql_i3 dJ5_append_c97b9_13 ?_
  obtain ⟨u1, e4, H⟩ := wp_b H
  obtain ⟨a3, e3, H⟩ := wp_b H
  refine dc_Q1v dJ5_append_c97b9_14 ml_J5_100 mq_J5_ensureCapacityInternal_d00df (C_J5_ensureCapacityInternal_d00df e3) (dm_rk_some e4) rfl rfl rfl ?_
  refine ql_a0 dJ5_append_c97b9_17 ?_
  obtain ⟨u2, e6, H⟩ := wp_b H
  obtain ⟨a4, e5, H⟩ := wp_b H
  refine dc_U0i (C := (RJ4, TJ4, 4)) dJ5_append_c97b9_18 ml_J5_83 mu_J5_isLatin1_aae02 (C_J5_isLatin1_aae02 e5) (dm_rk_some e6) rfl rfl rfl rfl ?_
  refine dr_if_eq 37 dJ5_append_c97b9_21 (by decide) (fun c1 => ?_) (fun c1 => ?_)
  · replace H := wp_t c1 H
    refine ql_i1 dJ5_append_c97b9_37 ?_
    refine ql_i2 dJ5_append_c97b9_38 ?_
    refine ql_i3 dJ5_append_c97b9_39 ?_
    refine ql_a0 dJ5_append_c97b9_40 ?_
    obtain ⟨w1, e7, H⟩ := wp_b H
    refine dr_getR dJ5_append_c97b9_41 fg_J5_15 e7 ?_
    exact (wp_n H).elim
  · replace H := wp_f c1 H
    refine ql_i1 dJ5_append_c97b9_24 ?_
    refine ql_i3 dJ5_append_c97b9_25 ?_
    refine ql_a0 dJ5_append_c97b9_26 ?_
    obtain ⟨w1, e7, H⟩ := wp_b H
    refine dr_getR dJ5_append_c97b9_27 fg_J5_15 e7 ?_
    obtain ⟨a5, e8, H⟩ := wp_b H
    refine dc_S3i dJ5_append_c97b9_30 ml_J5_248 mc_J6_getChars_ba4f3 (C_J6_getChars_ba4f3 e8) rfl rfl rfl ?_
    refine dr_pop dJ5_append_c97b9_33 trivial ?_
    refine dr_goto 48 dJ5_append_c97b9_34 (by decide) ?_
    refine ql_a0 dJ5_append_c97b9_48 ?_
    refine ql_i3 dJ5_append_c97b9_49 ?_
    obtain ⟨d1, e9, H⟩ := wp_b H
    refine dr_putI dJ5_append_c97b9_50 fg_J5_79 rfl rfl e9 ?_
    refine ql_a0 dJ5_append_c97b9_53 ?_
    replace H := wp_s H
    exact dr_aret dJ5_append_c97b9_54 rfl (Or.inl ⟨_, rfl⟩) H
noncomputable def F_J4_append_bf812 (X : dm_X) (q0 : am_G × Nat) (x1 : Int32) (d : dm_D) : Option ((am_G × Nat) × dm_D) :=
  (dm_rk d q0 14).bind (fun u1 => (F_J5_append_c97b9 X q0 x1 d).bind (fun a1 => some (q0, a1.2)))
theorem C_J4_append_bf812 {X : dm_X} {q0 : am_G × Nat} {x1 : Int32} {h : am_H} {d : dm_D} {a : (am_G × Nat) × dm_D} (e : F_J4_append_bf812 X q0 x1 d = some a) : dm_Mx X yJ4_append_bf812 cJ4_append_bf812 2 (some (.object "java/lang/StringBuilder")) 5 114 [.inr q0, am_i x1] h d (some (.inr a.1)) h a.2 := by
  refine dm_M.ofx (A := [some (.inr q0), some (am_i x1)]) (by decide +kernel) rfl (ble rfl) (fun Q hQ => ?_)
  have H : wp (F_J4_append_bf812 X q0 x1 d) (fun a => Q (some (.inr a.1)) h a.2) := ⟨_, e, hQ⟩
  unfold F_J4_append_bf812 at H
  refine ql_a0 dJ4_append_bf812_0 ?_
  refine ql_i1 dJ4_append_bf812_1 ?_
  obtain ⟨u1, e2, H⟩ := wp_b H
  obtain ⟨a1, e1, H⟩ := wp_b H
  refine dc_P1r (C := (RJ4, TJ4, 4)) dJ4_append_bf812_2 ml_J4_53 mp_J5_append_c97b9 (C_J5_append_c97b9 e1) (dm_rk_some e2) rfl rfl rfl rfl ?_
  refine dr_pop dJ4_append_bf812_5 trivial ?_
  refine ql_a0 dJ4_append_bf812_6 ?_
  replace H := wp_s H
  exact dr_aret dJ4_append_bf812_7 rfl (Or.inl ⟨_, rfl⟩) H
noncomputable def F_J1_canEncode_fc78d (x0 : Int32) : Option Int32 :=
  if (iI (255)) < x0 then (some (iI (0))) else (some (iI (1)))
theorem C_J1_canEncode_fc78d {X : dm_X} {x0 : Int32} {h : am_H} {d : dm_D} {a : Int32} (e : F_J1_canEncode_fc78d x0 = some a) : dm_Mx X yJ1_canEncode_fc78d cJ1_canEncode_fc78d 1 (some .boolean) 0 0 [am_i x0] h d (some (am_i a)) h d := by
  refine dm_M.ofx (A := [some (am_i x0)]) (by decide +kernel) rfl (ble rfl) (fun Q hQ => ?_)
  have H : wp (F_J1_canEncode_fc78d x0) (fun a => Q (some (am_i a)) h d) := ⟨_, e, hQ⟩
  unfold F_J1_canEncode_fc78d at H
  refine ql_i0 dJ1_canEncode_fc78d_0 ?_
  refine dr_sipush (iI (255)) dJ1_canEncode_fc78d_1 rfl ?_
  refine dr_ic_gt 11 dJ1_canEncode_fc78d_4 (by decide) (fun c1 => ?_) (fun c1 => ?_)
  · replace H := wp_t c1 H
    refine dr_iconst (iI (0)) dJ1_canEncode_fc78d_11 rfl ?_
    replace H := wp_s H
    exact dr_iret dJ1_canEncode_fc78d_12 rfl rfl H
  · replace H := wp_f c1 H
    refine dr_iconst (iI (1)) dJ1_canEncode_fc78d_7 rfl ?_
    refine dr_goto 12 dJ1_canEncode_fc78d_8 (by decide) ?_
    replace H := wp_s H
    exact dr_iret dJ1_canEncode_fc78d_12 rfl rfl H
noncomputable def F_J5_append_3fe6f_45 (X : dm_X) (q0 : am_G × Nat) (x1 : Int32) (d : dm_D) : Option ((am_G × Nat) × dm_D) :=
  (dm_rk d q0 14).bind (fun u1 => (F_J5_isLatin1_aae02 X q0 d).bind (fun a1 => if a1 = 0 then ((dm_fr d q0 14 0).bind (fun w1 => (dm_fi d q0 14 3).bind (fun a2 => (dm_pu d q0 14 3 (am_i (a2 + (iI (1))))).bind (fun d1 => none)))) else (none)))
noncomputable def F_J5_append_3fe6f (X : dm_X) (q0 : am_G × Nat) (x1 : Int32) (d : dm_D) : Option ((am_G × Nat) × dm_D) :=
  (dm_fi d q0 14 3).bind (fun a1 => (dm_rk d q0 14).bind (fun u1 => (F_J5_ensureCapacityInternal_d00df X q0 (a1 + (iI (1))) d).bind (fun a2 => (dm_rk a2 q0 14).bind (fun u2 => (F_J5_isLatin1_aae02 X q0 a2).bind (fun a3 => if a3 = 0 then (F_J5_append_3fe6f_45 X q0 x1 a2) else ((F_J1_canEncode_fc78d x1).bind (fun a4 => if a4 = 0 then (F_J5_append_3fe6f_45 X q0 x1 a2) else ((dm_fr a2 q0 14 0).bind (fun w1 => (dm_fi a2 q0 14 3).bind (fun a5 => (dm_pu a2 q0 14 3 (am_i (a5 + (iI (1))))).bind (fun d1 => (dm_wi d1 w1 1 a5 (vp_nar .byte (x1.toInt8.toInt32))).bind (fun d2 => some (q0, d2)))))))))))))
theorem C_J5_append_3fe6f_45 {X : dm_X} {q0 : am_G × Nat} {x1 : Int32} {h : am_H} {d : dm_D} {k0 : Nat} {Q : Option am_v → am_H → dm_D → Prop} (H : wp (F_J5_append_3fe6f_45 X q0 x1 d) (fun a => Q (some (.inr a.1)) h a.2)) : dm_V RJ5 "append" cJ5_append_3fe6f 2 (some (.object "java/lang/AbstractStringBuilder")) 4 91 k0 X (dm_Tm cJ5_append_3fe6f (some (.object "java/lang/AbstractStringBuilder")) Q) 45 [some (.inr q0), some (am_i x1)] [] h d := by
  unfold F_J5_append_3fe6f_45 at H
  refine ql_a0 dJ5_append_3fe6f_45 ?_
  obtain ⟨u1, e2, H⟩ := wp_b H
  obtain ⟨a1, e1, H⟩ := wp_b H
  refine dc_U0i (C := (RJ4, TJ4, 4)) dJ5_append_3fe6f_46 ml_J5_83 mu_J5_isLatin1_aae02 (C_J5_isLatin1_aae02 e1) (dm_rk_some e2) rfl rfl rfl rfl ?_
  refine dr_if_eq 56 dJ5_append_3fe6f_49 (by decide) (fun c1 => ?_) (fun c1 => ?_)
  · replace H := wp_t c1 H
    refine ql_a0 dJ5_append_3fe6f_56 ?_
    obtain ⟨w1, e3, H⟩ := wp_b H
    refine dr_getR dJ5_append_3fe6f_57 fg_J5_15 e3 ?_
    refine ql_a0 dJ5_append_3fe6f_60 ?_
    refine dr_dup dJ5_append_3fe6f_61 trivial ?_
    obtain ⟨a2, e4, H⟩ := wp_b H
    refine dr_getI dJ5_append_3fe6f_62 fg_J5_79 e4 ?_
    refine dr_dup_x1 dJ5_append_3fe6f_65 rfl rfl ?_
    refine dr_iconst (iI (1)) dJ5_append_3fe6f_66 rfl ?_
    refine dr_iadd dJ5_append_3fe6f_67 ?_
    obtain ⟨d1, e5, H⟩ := wp_b H
    refine dr_putI dJ5_append_3fe6f_68 fg_J5_79 rfl rfl e5 ?_
    refine ql_i1 dJ5_append_3fe6f_71 ?_
    exact (wp_n H).elim
  · replace H := wp_f c1 H
    refine ql_a0 dJ5_append_3fe6f_52 ?_
    exact (wp_n H).elim
theorem C_J5_append_3fe6f {X : dm_X} {q0 : am_G × Nat} {x1 : Int32} {h : am_H} {d : dm_D} {a : (am_G × Nat) × dm_D} (e : F_J5_append_3fe6f X q0 x1 d = some a) : dm_Mx X yJ5_append_3fe6f cJ5_append_3fe6f 2 (some (.object "java/lang/AbstractStringBuilder")) 4 91 [.inr q0, am_i x1] h d (some (.inr a.1)) h a.2 := by
  refine dm_M.ofx (A := [some (.inr q0), some (am_i x1)]) (by decide +kernel) rfl (ble rfl) (fun Q hQ => ?_)
  have H : wp (F_J5_append_3fe6f X q0 x1 d) (fun a => Q (some (.inr a.1)) h a.2) := ⟨_, e, hQ⟩
  unfold F_J5_append_3fe6f at H
  refine ql_a0 dJ5_append_3fe6f_0 ?_
  refine ql_a0 dJ5_append_3fe6f_1 ?_
  obtain ⟨a1, e1, H⟩ := wp_b H
  refine dr_getI dJ5_append_3fe6f_2 fg_J5_79 e1 ?_
  refine dr_iconst (iI (1)) dJ5_append_3fe6f_5 rfl ?_
  refine dr_iadd dJ5_append_3fe6f_6 ?_
  obtain ⟨u1, e3, H⟩ := wp_b H
  obtain ⟨a2, e2, H⟩ := wp_b H
  refine dc_Q1v dJ5_append_3fe6f_7 ml_J5_100 mq_J5_ensureCapacityInternal_d00df (C_J5_ensureCapacityInternal_d00df e2) (dm_rk_some e3) rfl rfl rfl ?_
  refine ql_a0 dJ5_append_3fe6f_10 ?_
  obtain ⟨u2, e5, H⟩ := wp_b H
  obtain ⟨a3, e4, H⟩ := wp_b H
  refine dc_U0i (C := (RJ4, TJ4, 4)) dJ5_append_3fe6f_11 ml_J5_83 mu_J5_isLatin1_aae02 (C_J5_isLatin1_aae02 e4) (dm_rk_some e5) rfl rfl rfl rfl ?_
  refine dr_if_eq 45 dJ5_append_3fe6f_14 (by decide) (fun c1 => ?_) (fun c1 => ?_)
  · replace H := wp_t c1 H
    exact dr_wk (am_s (am_s am_0)) (C_J5_append_3fe6f_45 H)
  · replace H := wp_f c1 H
    refine ql_i1 dJ5_append_3fe6f_17 ?_
    obtain ⟨a4, e6, H⟩ := wp_b H
    refine dc_S1i dJ5_append_3fe6f_18 ml_J5_191 mc_J1_canEncode_fc78d (C_J1_canEncode_fc78d e6) rfl rfl rfl ?_
    refine dr_if_eq 45 dJ5_append_3fe6f_21 (by decide) (fun c2 => ?_) (fun c2 => ?_)
    · replace H := wp_t c2 H
      exact dr_wk (am_s (am_s am_0)) (C_J5_append_3fe6f_45 H)
    · replace H := wp_f c2 H
      refine ql_a0 dJ5_append_3fe6f_24 ?_
      obtain ⟨w1, e7, H⟩ := wp_b H
      refine dr_getR dJ5_append_3fe6f_25 fg_J5_15 e7 ?_
      refine ql_a0 dJ5_append_3fe6f_28 ?_
      refine dr_dup dJ5_append_3fe6f_29 trivial ?_
      obtain ⟨a5, e8, H⟩ := wp_b H
      refine dr_getI dJ5_append_3fe6f_30 fg_J5_79 e8 ?_
      refine dr_dup_x1 dJ5_append_3fe6f_33 rfl rfl ?_
      refine dr_iconst (iI (1)) dJ5_append_3fe6f_34 rfl ?_
      refine dr_iadd dJ5_append_3fe6f_35 ?_
      obtain ⟨d1, e9, H⟩ := wp_b H
      refine dr_putI dJ5_append_3fe6f_36 fg_J5_79 rfl rfl e9 ?_
      refine ql_i1 dJ5_append_3fe6f_39 ?_
      refine dr_i2b dJ5_append_3fe6f_40 ?_
      obtain ⟨d2, e10, H⟩ := wp_b H
      refine dr_bast dJ5_append_3fe6f_41 e10 ?_
      refine dr_goto 75 dJ5_append_3fe6f_42 (by decide) ?_
      refine ql_a0 dJ5_append_3fe6f_75 ?_
      replace H := wp_s H
      exact dr_aret dJ5_append_3fe6f_76 rfl (Or.inl ⟨_, rfl⟩) H
noncomputable def F_J4_append_cf468 (X : dm_X) (q0 : am_G × Nat) (x1 : Int32) (d : dm_D) : Option ((am_G × Nat) × dm_D) :=
  (dm_rk d q0 14).bind (fun u1 => (F_J5_append_3fe6f X q0 x1 d).bind (fun a1 => some (q0, a1.2)))
theorem C_J4_append_cf468 {X : dm_X} {q0 : am_G × Nat} {x1 : Int32} {h : am_H} {d : dm_D} {a : (am_G × Nat) × dm_D} (e : F_J4_append_cf468 X q0 x1 d = some a) : dm_Mx X yJ4_append_cf468 cJ4_append_cf468 2 (some (.object "java/lang/StringBuilder")) 5 112 [.inr q0, am_i x1] h d (some (.inr a.1)) h a.2 := by
  refine dm_M.ofx (A := [some (.inr q0), some (am_i x1)]) (by decide +kernel) rfl (ble rfl) (fun Q hQ => ?_)
  have H : wp (F_J4_append_cf468 X q0 x1 d) (fun a => Q (some (.inr a.1)) h a.2) := ⟨_, e, hQ⟩
  unfold F_J4_append_cf468 at H
  refine ql_a0 dJ4_append_cf468_0 ?_
  refine ql_i1 dJ4_append_cf468_1 ?_
  obtain ⟨u1, e2, H⟩ := wp_b H
  obtain ⟨a1, e1, H⟩ := wp_b H
  refine dc_P1r (C := (RJ4, TJ4, 4)) dJ4_append_cf468_2 ml_J4_50 mp_J5_append_3fe6f (C_J5_append_3fe6f e1) (dm_rk_some e2) rfl rfl rfl rfl ?_
  refine dr_pop dJ4_append_cf468_5 trivial ?_
  refine ql_a0 dJ4_append_cf468_6 ?_
  replace H := wp_s H
  exact dr_aret dJ4_append_cf468_7 rfl (Or.inl ⟨_, rfl⟩) H
noncomputable def F_J5_getValue_6d5f1 (X : dm_X) (q0 : am_G × Nat) (d : dm_D) : Option ((am_G × Nat)) :=
  (dm_fr d q0 14 0).bind (fun w1 => some w1)
theorem C_J5_getValue_6d5f1 {X : dm_X} {q0 : am_G × Nat} {h : am_H} {d : dm_D} {a : (am_G × Nat)} (e : F_J5_getValue_6d5f1 X q0 d = some a) : dm_Mx X yJ5_getValue_6d5f1 cJ5_getValue_6d5f1 1 (some (.array .byte)) 0 0 [.inr q0] h d (some (.inr a)) h d := by
  refine dm_M.ofx (A := [some (.inr q0)]) (by decide +kernel) rfl (ble rfl) (fun Q hQ => ?_)
  have H : wp (F_J5_getValue_6d5f1 X q0 d) (fun a => Q (some (.inr a)) h d) := ⟨_, e, hQ⟩
  unfold F_J5_getValue_6d5f1 at H
  refine ql_a0 dJ5_getValue_6d5f1_0 ?_
  obtain ⟨w1, e1, H⟩ := wp_b H
  refine dr_getR dJ5_getValue_6d5f1_1 fg_J5_15 e1 ?_
  replace H := wp_s H
  exact dr_aret dJ5_getValue_6d5f1_4 rfl (Or.inr ⟨_, rfl⟩) H
noncomputable def F_J5_length_8abf5 (X : dm_X) (q0 : am_G × Nat) (d : dm_D) : Option Int32 :=
  (dm_fi d q0 14 3).bind (fun a1 => some a1)
theorem C_J5_length_8abf5 {X : dm_X} {q0 : am_G × Nat} {h : am_H} {d : dm_D} {a : Int32} (e : F_J5_length_8abf5 X q0 d = some a) : dm_Mx X yJ5_length_8abf5 cJ5_length_8abf5 1 (some .int) 0 0 [.inr q0] h d (some (am_i a)) h d := by
  refine dm_M.ofx (A := [some (.inr q0)]) (by decide +kernel) rfl (ble rfl) (fun Q hQ => ?_)
  have H : wp (F_J5_length_8abf5 X q0 d) (fun a => Q (some (am_i a)) h d) := ⟨_, e, hQ⟩
  unfold F_J5_length_8abf5 at H
  refine ql_a0 dJ5_length_8abf5_0 ?_
  obtain ⟨a1, e1, H⟩ := wp_b H
  refine dr_getI dJ5_length_8abf5_1 fg_J5_79 e1 ?_
  replace H := wp_s H
  exact dr_iret dJ5_length_8abf5_4 rfl rfl H
noncomputable def F_J4_length_8abf5 (X : dm_X) (q0 : am_G × Nat) (d : dm_D) : Option Int32 :=
  (dm_rk d q0 14).bind (fun u1 => (F_J5_length_8abf5 X q0 d).bind (fun a1 => some a1))
theorem C_J4_length_8abf5 {X : dm_X} {q0 : am_G × Nat} {h : am_H} {d : dm_D} {a : Int32} (e : F_J4_length_8abf5 X q0 d = some a) : dm_Mx X yJ4_length_8abf5 cJ4_length_8abf5 1 (some .int) 1 20 [.inr q0] h d (some (am_i a)) h d := by
  refine dm_M.ofx (A := [some (.inr q0)]) (by decide +kernel) rfl (ble rfl) (fun Q hQ => ?_)
  have H : wp (F_J4_length_8abf5 X q0 d) (fun a => Q (some (am_i a)) h d) := ⟨_, e, hQ⟩
  unfold F_J4_length_8abf5 at H
  refine ql_a0 dJ4_length_8abf5_0 ?_
  obtain ⟨u1, e2, H⟩ := wp_b H
  obtain ⟨a1, e1, H⟩ := wp_b H
  refine dc_P0i (C := (RJ4, TJ4, 4)) dJ4_length_8abf5_1 ml_J4_343 mp_J5_length_8abf5 (C_J5_length_8abf5 e1) (dm_rk_some e2) rfl rfl rfl rfl ?_
  replace H := wp_s H
  exact dr_iret dJ4_length_8abf5_4 rfl rfl H
noncomputable def F_J7_checkLength_df160 (x0 : Int32) (x1 : Int32) : Option Unit :=
  if x0 ≤ x1 then (some ()) else (none)
theorem C_J7_checkLength_df160 {X : dm_X} {x0 : Int32} {x1 : Int32} {h : am_H} {d : dm_D} {a : Unit} (e : F_J7_checkLength_df160 x0 x1 = some a) : dm_Mx X yJ7_checkLength_df160 cJ7_checkLength_df160 2 (none) 0 0 [am_i x0, am_i x1] h d none h d := by
  refine dm_M.ofx (A := [some (am_i x0), some (am_i x1)]) (by decide +kernel) rfl (ble rfl) (fun Q hQ => ?_)
  have H : wp (F_J7_checkLength_df160 x0 x1) (fun _ => Q none h d) := ⟨_, e, hQ⟩
  unfold F_J7_checkLength_df160 at H
  refine ql_i1 dJ7_checkLength_df160_0 ?_
  refine ql_i0 dJ7_checkLength_df160_1 ?_
  refine dr_ic_ge 37 dJ7_checkLength_df160_2 (by decide) (fun c1 => ?_) (fun c1 => ?_)
  · replace H := wp_t c1 H
    replace H := wp_s H
    exact dr_vret dJ7_checkLength_df160_37 rfl H
  · replace H := wp_f c1 H
    exact (wp_n H).elim
noncomputable def F_J7_copyOfRangeByte_39247 (X : dm_X) (q0 : am_G × Nat) (x1 : Int32) (x2 : Int32) (d : dm_D) : Option ((am_G × Nat) × dm_D) :=
  (F_J7_checkLength_df160 x1 x2).bind (fun a1 => (dm_na d 1 (x2 - x1)).bind (fun d1 => (dm_ln X d1 q0).bind (fun a2 => (F_J9_min_7cf53 (a2 - x1) (x2 - x1)).bind (fun a3 => (dm_cb d1 q0 x1 (.inl 0, d.1) (iI (0)) a3).bind (fun d2 => some ((.inl 0, d.1), d2))))))
theorem C_J7_copyOfRangeByte_39247 {X : dm_X} {q0 : am_G × Nat} {x1 : Int32} {x2 : Int32} {h : am_H} {d : dm_D} {a : (am_G × Nat) × dm_D} (e : F_J7_copyOfRangeByte_39247 X q0 x1 x2 d = some a) : dm_Mx X yJ7_copyOfRangeByte_39247 cJ7_copyOfRangeByte_39247 5 (some (.array .byte)) 1 26 [.inr q0, am_i x1, am_i x2] h d (some (.inr a.1)) h a.2 := by
  refine dm_M.ofx (A := [some (.inr q0), some (am_i x1), some (am_i x2), none, none]) (by decide +kernel) rfl (ble rfl) (fun Q hQ => ?_)
  have H : wp (F_J7_copyOfRangeByte_39247 X q0 x1 x2 d) (fun a => Q (some (.inr a.1)) h a.2) := ⟨_, e, hQ⟩
  unfold F_J7_copyOfRangeByte_39247 at H
  refine ql_i1 dJ7_copyOfRangeByte_39247_0 ?_
  refine ql_i2 dJ7_copyOfRangeByte_39247_1 ?_
  obtain ⟨a1, e1, H⟩ := wp_b H
  refine dc_S2v dJ7_copyOfRangeByte_39247_2 ml_J7_343 mc_J7_checkLength_df160 (C_J7_checkLength_df160 e1) rfl rfl rfl ?_
  refine ql_i2 dJ7_copyOfRangeByte_39247_5 ?_
  refine ql_i1 dJ7_copyOfRangeByte_39247_6 ?_
  refine dr_isub dJ7_copyOfRangeByte_39247_7 ?_
  refine qs_i3 dJ7_copyOfRangeByte_39247_8 rfl trivial ?_
  refine ql_i3 dJ7_copyOfRangeByte_39247_9 ?_
  obtain ⟨d1, e2, H⟩ := wp_b H
  refine dr_newa dJ7_copyOfRangeByte_39247_10 na_byte (fun _ => rfl) (by decide) (fun _ _ => rfl) e2 ?_
  refine qs_a4 dJ7_copyOfRangeByte_39247_12 rfl trivial ?_
  refine ql_a0 dJ7_copyOfRangeByte_39247_14 ?_
  refine ql_i1 dJ7_copyOfRangeByte_39247_15 ?_
  refine ql_a4 dJ7_copyOfRangeByte_39247_16 ?_
  refine dr_iconst (iI (0)) dJ7_copyOfRangeByte_39247_18 rfl ?_
  refine ql_a0 dJ7_copyOfRangeByte_39247_19 ?_
  obtain ⟨a2, e3, H⟩ := wp_b H
  refine dr_len dJ7_copyOfRangeByte_39247_20 e3 ?_
  refine ql_i1 dJ7_copyOfRangeByte_39247_21 ?_
  refine dr_isub dJ7_copyOfRangeByte_39247_22 ?_
  refine ql_i3 dJ7_copyOfRangeByte_39247_23 ?_
  obtain ⟨a3, e4, H⟩ := wp_b H
  refine dc_S2i dJ7_copyOfRangeByte_39247_24 ml_J7_304 mc_J9_min_7cf53 (C_J9_min_7cf53 e4) rfl rfl rfl ?_
  obtain ⟨d2, e5, H⟩ := wp_b H
  refine dr_copyB dJ7_copyOfRangeByte_39247_27 cp_J7_150 rfl rfl rfl e5 ?_
  refine ql_a4 dJ7_copyOfRangeByte_39247_30 ?_
  replace H := wp_s H
  exact dr_aret dJ7_copyOfRangeByte_39247_32 rfl (Or.inr ⟨_, rfl⟩) H
noncomputable def F_J7_copyOfRange_39247 (X : dm_X) (q0 : am_G × Nat) (x1 : Int32) (x2 : Int32) (d : dm_D) : Option ((am_G × Nat) × dm_D) :=
  if x1 = 0 then ((dm_ln X d q0).bind (fun a1 => if x2 = a1 then ((dm_cn d q0).bind (fun d2 => some ((.inl 0, d.1), d2))) else ((F_J7_copyOfRangeByte_39247 X q0 x1 x2 d).bind (fun a2 => some (a2.1, a2.2))))) else ((F_J7_copyOfRangeByte_39247 X q0 x1 x2 d).bind (fun a1 => some (a1.1, a1.2)))
theorem C_J7_copyOfRange_39247 {X : dm_X} {q0 : am_G × Nat} {x1 : Int32} {x2 : Int32} {h : am_H} {d : dm_D} {a : (am_G × Nat) × dm_D} (e : F_J7_copyOfRange_39247 X q0 x1 x2 d = some a) : dm_Mx X yJ7_copyOfRange_39247 cJ7_copyOfRange_39247 3 (some (.array .byte)) 2 50 [.inr q0, am_i x1, am_i x2] h d (some (.inr a.1)) h a.2 := by
  refine dm_M.ofx (A := [some (.inr q0), some (am_i x1), some (am_i x2)]) (by decide +kernel) rfl (ble rfl) (fun Q hQ => ?_)
  have H : wp (F_J7_copyOfRange_39247 X q0 x1 x2 d) (fun a => Q (some (.inr a.1)) h a.2) := ⟨_, e, hQ⟩
  unfold F_J7_copyOfRange_39247 at H
  refine ql_i1 dJ7_copyOfRange_39247_0 ?_
  refine dr_if_ne 10 dJ7_copyOfRange_39247_1 (by decide) (fun c1 => ?_) (fun c1 => ?_)
  · replace H := wp_f c1 H
    refine ql_a0 dJ7_copyOfRange_39247_10 ?_
    refine ql_i1 dJ7_copyOfRange_39247_11 ?_
    refine ql_i2 dJ7_copyOfRange_39247_12 ?_
    obtain ⟨a1, e1, H⟩ := wp_b H
    refine dc_S3r dJ7_copyOfRange_39247_13 ml_J7_339 mc_J7_copyOfRangeByte_39247 (C_J7_copyOfRangeByte_39247 e1) rfl rfl rfl ?_
    replace H := wp_s H
    exact dr_aret dJ7_copyOfRange_39247_16 rfl (Or.inr ⟨_, rfl⟩) H
  · replace H := wp_t c1 H
    refine ql_i2 dJ7_copyOfRange_39247_4 ?_
    refine ql_a0 dJ7_copyOfRange_39247_5 ?_
    obtain ⟨a1, e1, H⟩ := wp_b H
    refine dr_len dJ7_copyOfRange_39247_6 e1 ?_
    refine dr_ic_eq 17 dJ7_copyOfRange_39247_7 (by decide) (fun c2 => ?_) (fun c2 => ?_)
    · replace H := wp_t c2 H
      refine ql_a0 dJ7_copyOfRange_39247_17 ?_
      obtain ⟨d2, e2, H⟩ := wp_b H
      refine dr_clone dJ7_copyOfRange_39247_18 cl_J7_310 rfl rfl rfl e2 ?_
      refine dr_castB dJ7_copyOfRange_39247_21 fc_J7_311 (dm_cn_ar e2) ?_
      replace H := wp_s H
      exact dr_aret dJ7_copyOfRange_39247_24 rfl (Or.inr ⟨_, rfl⟩) H
    · replace H := wp_f c2 H
      refine ql_a0 dJ7_copyOfRange_39247_10 ?_
      refine ql_i1 dJ7_copyOfRange_39247_11 ?_
      refine ql_i2 dJ7_copyOfRange_39247_12 ?_
      obtain ⟨a2, e2, H⟩ := wp_b H
      refine dc_S3r dJ7_copyOfRange_39247_13 ml_J7_339 mc_J7_copyOfRangeByte_39247 (C_J7_copyOfRangeByte_39247 e2) rfl rfl rfl ?_
      replace H := wp_s H
      exact dr_aret dJ7_copyOfRange_39247_16 rfl (Or.inr ⟨_, rfl⟩) H
noncomputable def F_J0_init_db425_79 (X : dm_X) (q0 : am_G × Nat) (q3 : am_G × Nat) (x4 : Int32) (d : dm_D) : Option dm_D :=
  (dm_pu d q0 13 1 (am_i (iI (1)))).bind (fun d1 => (F_J7_copyOfRange_39247 X q3 (iI (0)) (x4 <<< ((iI (1)) &&& 31)) d1).bind (fun a1 => (dm_pu a1.2 q0 13 0 (.inr a1.1)).bind (fun d2 => some d2)))
noncomputable def F_J0_init_db425 (X : dm_X) (q0 : am_G × Nat) (q1 : am_G × Nat) (d : dm_D) : Option dm_D :=
  (dm_rk d q1 14).bind (fun u1 => (F_J5_getValue_6d5f1 X q1 d).bind (fun a1 => (dm_rk d q1 14).bind (fun u2 => (F_J4_length_8abf5 X q1 d).bind (fun a2 => (dm_rk d q1 14).bind (fun u3 => (F_J5_isLatin1_aae02 X q1 d).bind (fun a3 => if a3 = 0 then (if (1 : Int32) = 0 then (F_J0_init_db425_79 X q0 a1 a2 d) else ((dm_fi d q1 14 2).bind (fun a4 => if a4 = 0 then (F_J0_init_db425_79 X q0 a1 a2 d) else (none)))) else ((dm_pu d q0 13 1 (am_i (iI (0)))).bind (fun d1 => (F_J7_copyOfRange_39247 X a1 (iI (0)) a2 d1).bind (fun a4 => (dm_pu a4.2 q0 13 0 (.inr a4.1)).bind (fun d2 => some d2))))))))))
theorem C_J0_init_db425_79 {X : dm_X} {q0 : am_G × Nat} {q3 : am_G × Nat} {x4 : Int32} {h : am_H} {d : dm_D} {k0 : Nat} {Q : Option am_v → am_H → dm_D → Prop} (H : wp (F_J0_init_db425_79 X q0 q3 x4 d) (fun a => Q none h a)) : dm_V RJ0 "<init>" cJ0_init_db425 5 (none) 3 72 k0 X (dm_Tm cJ0_init_db425 (none) Q) 79 [some (.inr q0), none, none, some (.inr q3), some (am_i x4)] [] h d := by
  unfold F_J0_init_db425_79 at H
  refine ql_a0 dJ0_init_db425_79 ?_
  refine dr_iconst (iI (1)) dJ0_init_db425_80 rfl ?_
  obtain ⟨d1, e1, H⟩ := wp_b H
  refine dr_putFI (ci := 13) (k := 1) (r := (RJ0, TJ0, 4)) dJ0_init_db425_81 rfl (by decide) rfl pf_b fs_J0_15 rfl rfl rfl rfl e1 ?_
  refine ql_a0 dJ0_init_db425_84 ?_
  refine ql_a3 dJ0_init_db425_85 ?_
  refine dr_iconst (iI (0)) dJ0_init_db425_86 rfl ?_
  refine ql_i4 dJ0_init_db425_87 ?_
  refine dr_iconst (iI (1)) dJ0_init_db425_89 rfl ?_
  refine dr_ishl dJ0_init_db425_90 ?_
  obtain ⟨a1, e2, H⟩ := wp_b H
  refine dc_S3r dJ0_init_db425_91 ml_J0_54 mc_J7_copyOfRange_39247 (C_J7_copyOfRange_39247 e2) rfl rfl rfl ?_
  obtain ⟨d2, e3, H⟩ := wp_b H
  refine dr_putFR (ci := 13) (k := 0) (r := (RJ0, TJ0, 4)) dJ0_init_db425_94 rfl (by decide) rfl pf_B fs_J0_9 rfl rfl (fun _ => ⟨rfl, rfl⟩) e3 ?_
  replace H := wp_s H
  exact dr_vret dJ0_init_db425_97 rfl H
theorem C_J0_init_db425 {X : dm_X} {q0 : am_G × Nat} {q1 : am_G × Nat} {h : am_H} {d : dm_D} {a : dm_D} (e : F_J0_init_db425 X q0 q1 d = some a) : dm_Mx X yJ0_init_db425 cJ0_init_db425 5 (none) 3 72 [.inr q0, .inr q1, .inl .null] h d none h a := by
  refine dm_M.ofx (A := [some (.inr q0), some (.inr q1), some (.inl .null), none, none]) (by decide +kernel) rfl (ble rfl) (fun Q hQ => ?_)
  have H : wp (F_J0_init_db425 X q0 q1 d) (fun a => Q none h a) := ⟨_, e, hQ⟩
  unfold F_J0_init_db425 at H
  refine ql_a0 dJ0_init_db425_0 ?_
  refine dr_objI dJ0_init_db425_1 ob_J0_1 ob_0.1 ob_0.2 rfl rfl rfl ?_
  refine ql_a1 dJ0_init_db425_4 ?_
  obtain ⟨u1, e2, H⟩ := wp_b H
  obtain ⟨a1, e1, H⟩ := wp_b H
  refine dc_U0r (C := (RJ4, TJ4, 4)) dJ0_init_db425_5 ml_J0_552 mu_J5_getValue_6d5f1 (C_J5_getValue_6d5f1 e1) (dm_rk_some e2) rfl rfl rfl rfl ?_
  refine qs_a3 dJ0_init_db425_8 rfl trivial ?_
  refine ql_a1 dJ0_init_db425_9 ?_
  obtain ⟨u2, e4, H⟩ := wp_b H
  obtain ⟨a2, e3, H⟩ := wp_b H
  refine dc_O0i dJ0_init_db425_10 ml_J0_549  (C_J4_length_8abf5 e3) (dm_rk_some e4) rfl rfl rfl ?_
  refine qs_i4 dJ0_init_db425_13 rfl trivial ?_
  refine ql_a1 dJ0_init_db425_15 ?_
  obtain ⟨u3, e6, H⟩ := wp_b H
  obtain ⟨a3, e5, H⟩ := wp_b H
  refine dc_U0i (C := (RJ4, TJ4, 4)) dJ0_init_db425_16 ml_J0_1047 mu_J5_isLatin1_aae02 (C_J5_isLatin1_aae02 e5) (dm_rk_some e6) rfl rfl rfl rfl ?_
  refine dr_if_eq 41 dJ0_init_db425_19 (by decide) (fun c1 => ?_) (fun c1 => ?_)
  · replace H := wp_t c1 H
    refine dr_getsC dJ0_init_db425_41 fs_J0_38 ?_
    refine dr_if_eq 79 dJ0_init_db425_44 (by decide) (fun c2 => ?_) (fun c2 => ?_)
    · replace H := wp_t c2 H
      exact dr_wk (am_s (am_n (am_n (am_s (am_s am_0))))) (C_J0_init_db425_79 H)
    · replace H := wp_f c2 H
      refine ql_a1 dJ0_init_db425_47 ?_
      obtain ⟨a4, e7, H⟩ := wp_b H
      refine dr_getI dJ0_init_db425_48 fg_J0_1048 e7 ?_
      refine dr_if_eq 79 dJ0_init_db425_51 (by decide) (fun c3 => ?_) (fun c3 => ?_)
      · replace H := wp_t c3 H
        exact dr_wk (am_s (am_n (am_n (am_s (am_s am_0))))) (C_J0_init_db425_79 H)
      · replace H := wp_f c3 H
        refine ql_a0 dJ0_init_db425_54 ?_
        refine ql_a3 dJ0_init_db425_55 ?_
        refine dr_iconst (iI (0)) dJ0_init_db425_56 rfl ?_
        refine ql_i4 dJ0_init_db425_57 ?_
        exact (wp_n H).elim
  · replace H := wp_f c1 H
    refine ql_a0 dJ0_init_db425_22 ?_
    refine dr_iconst (iI (0)) dJ0_init_db425_23 rfl ?_
    obtain ⟨d1, e7, H⟩ := wp_b H
    refine dr_putFI (ci := 13) (k := 1) (r := (RJ0, TJ0, 4)) dJ0_init_db425_24 rfl (by decide) rfl pf_b fs_J0_15 rfl rfl rfl rfl e7 ?_
    refine ql_a0 dJ0_init_db425_27 ?_
    refine ql_a3 dJ0_init_db425_28 ?_
    refine dr_iconst (iI (0)) dJ0_init_db425_29 rfl ?_
    refine ql_i4 dJ0_init_db425_30 ?_
    obtain ⟨a4, e8, H⟩ := wp_b H
    refine dc_S3r dJ0_init_db425_32 ml_J0_54 mc_J7_copyOfRange_39247 (C_J7_copyOfRange_39247 e8) rfl rfl rfl ?_
    obtain ⟨d2, e9, H⟩ := wp_b H
    refine dr_putFR (ci := 13) (k := 0) (r := (RJ0, TJ0, 4)) dJ0_init_db425_35 rfl (by decide) rfl pf_B fs_J0_9 rfl rfl (fun _ => ⟨rfl, rfl⟩) e9 ?_
    refine dr_goto 97 dJ0_init_db425_38 (by decide) ?_
    replace H := wp_s H
    exact dr_vret dJ0_init_db425_97 rfl H
noncomputable def F_J0_init_81219 (X : dm_X) (q0 : am_G × Nat) (q1 : am_G × Nat) (d : dm_D) : Option dm_D :=
  (F_J0_init_db425 X q0 q1 d).bind (fun a1 => some a1)
theorem C_J0_init_81219 {X : dm_X} {q0 : am_G × Nat} {q1 : am_G × Nat} {h : am_H} {d : dm_D} {a : dm_D} (e : F_J0_init_81219 X q0 q1 d = some a) : dm_Mx X yJ0_init_81219 cJ0_init_81219 2 (none) 4 96 [.inr q0, .inr q1] h d none h a := by
  refine dm_M.ofx (A := [some (.inr q0), some (.inr q1)]) (by decide +kernel) rfl (ble rfl) (fun Q hQ => ?_)
  have H : wp (F_J0_init_81219 X q0 q1 d) (fun a => Q none h a) := ⟨_, e, hQ⟩
  unfold F_J0_init_81219 at H
  refine ql_a0 dJ0_init_81219_0 ?_
  refine ql_a1 dJ0_init_81219_1 ?_
  refine dr_null dJ0_init_81219_2 ?_
  obtain ⟨a1, e1, H⟩ := wp_b H
  refine dc_I2v dJ0_init_81219_3 ml_J0_489 mi_J0_init_db425 (C_J0_init_db425 e1) rfl rfl rfl ?_
  replace H := wp_s H
  exact dr_vret dJ0_init_81219_6 rfl H
noncomputable def F_J4_toString_0e30d (X : dm_X) (q0 : am_G × Nat) (d : dm_D) : Option ((am_G × Nat) × dm_D) :=
  (dm_no d 13).bind (fun d1 => (F_J0_init_81219 X (.inl 0, d.1) q0 d1).bind (fun a1 => some ((.inl 0, d.1), a1)))
theorem C_J4_toString_0e30d {X : dm_X} {q0 : am_G × Nat} {h : am_H} {d : dm_D} {a : (am_G × Nat) × dm_D} (e : F_J4_toString_0e30d X q0 d = some a) : dm_Mx X yJ4_toString_0e30d cJ4_toString_0e30d 1 (some (.object "java/lang/String")) 5 117 [.inr q0] h d (some (.inr a.1)) h a.2 := by
  refine dm_M.ofx (A := [some (.inr q0)]) (by decide +kernel) rfl (ble rfl) (fun Q hQ => ?_)
  have H : wp (F_J4_toString_0e30d X q0 d) (fun a => Q (some (.inr a.1)) h a.2) := ⟨_, e, hQ⟩
  unfold F_J4_toString_0e30d at H
  obtain ⟨d1, e1, H⟩ := wp_b H
  refine dr_new dJ4_toString_0e30d_0 rfl nw_J4_18.1 nw_J4_18.2.1 nw_J4_18.2.2 rfl nf_13 e1 ?_
  refine dr_dup dJ4_toString_0e30d_3 trivial ?_
  refine ql_a0 dJ4_toString_0e30d_4 ?_
  obtain ⟨a1, e2, H⟩ := wp_b H
  refine dc_I1v dJ4_toString_0e30d_5 ml_J4_137 mi_J0_init_81219 (C_J0_init_81219 e2) rfl rfl rfl ?_
  replace H := wp_s H
  exact dr_aret dJ4_toString_0e30d_8 rfl (Or.inl ⟨_, rfl⟩) H
