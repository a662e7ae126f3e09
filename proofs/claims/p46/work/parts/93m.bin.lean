/-! the constructors -/
def KX0 : (Nat → ClassId) → Nat → List va_E := fun cA b => [.inr (0, [.ref (b + 1), .ref (b + 2), .ref (b + 3), .ref (b + 4), .int 0]), .inl (cA 0, 8, .inl (fun _ => 0)), .inl (cA 0, 8, .inl (fun _ => 0)), .inl (cA 0, 8, .inl (fun _ => 0)), .inl (cA 2, 8, .inl (fun _ => 0))]
theorem M_X0 : bd_M yX0_init cX0_init 1 1 12 4 32 1 (fun _ _ => [.inr (0, [.null, .null, .null, .null, .int 0])]) KX0 := by
  refine bd_M.of (by decide +kernel) (by decide) (fun _ _ => rfl) ?_
  intro p l e R s m args below meth c lo ad D cA b Z ls F hm hlo hO hE B hl
  have hb0 : b ≤ s.heap.size := by have := B.2.2.2.1; omega
  refine lv_aload_n F.1 F.2.1 dX0_init_0 rfl (lv_at hl 0 rfl) ?_
  refine W.objInit F.1 F.2.1 F.2.2.2.1 (F.2.2.2.2.1 _ bq_o0) (F.2.2.2.2.1 _ bq_oi) (F.2.2.2.2.1 _ bq_oc) rfl (hl.1.trans F.2.2.1.symm) rfl dX0_init_1 (Nat.le_trans (ble rfl) F.2.2.2.2.2.2.2.2.2.1) (Nat.le_trans (ble rfl) F.2.2.2.2.2.2.2.2.2.2.1) ?_
  refine W.eq (g2 := F0 m 4 ls []) rfl ?_
  refine lv_aload_n F.1 F.2.1 dX0_init_4 rfl (lv_at hl 0 rfl) ?_
  refine lv_bipush (v := 8) F.1 F.2.1 dX0_init_5 rfl ?_
  refine bn_arr (t := 0) (N := 8) (a0 := .inl (fun _ => 0)) F B hb0 dX0_init_7 bq_a_int rfl (fun _ => rfl) (by decide) (by decide) (by decide) (by decide) (by decide) (fun H B => ?_)
  have B : BS D b 2 s 1 [.inr (0, [.null, .null, .null, .null, .int 0]), .inl (cA 0, 8, .inl (fun _ => 0))] H _ := B
  refine bn_put (k := 0) (ty := .array .int) (T := TX0) F B dX0_init_9 rfl (by decide) fw_X0_9 (Or.inr ⟨rfl, hm, rfl⟩) (by decide +kernel) rfl rfl (ble rfl) (fun H locs B => ?_)
  have B : BS D b 2 s 1 [.inr (0, [.ref (b + 1), .null, .null, .null, .int 0]), .inl (cA 0, 8, .inl (fun _ => 0))] H _ := B
  refine lv_aload_n F.1 F.2.1 dX0_init_12 rfl (lv_at hl 0 rfl) ?_
  refine lv_bipush (v := 8) F.1 F.2.1 dX0_init_13 rfl ?_
  refine bn_arr (t := 0) (N := 8) (a0 := .inl (fun _ => 0)) F B hb0 dX0_init_15 bq_a_int rfl (fun _ => rfl) (by decide) (by decide) (by decide) (by decide) (by decide) (fun H B => ?_)
  have B : BS D b 3 s 2 [.inr (0, [.ref (b + 1), .null, .null, .null, .int 0]), .inl (cA 0, 8, .inl (fun _ => 0)), .inl (cA 0, 8, .inl (fun _ => 0))] H _ := B
  refine bn_put (k := 1) (ty := .array .int) (T := TX0) F B dX0_init_17 rfl (by decide) fw_X0_15 (Or.inr ⟨rfl, hm, rfl⟩) (by decide +kernel) rfl rfl (ble rfl) (fun H locs B => ?_)
  have B : BS D b 3 s 2 [.inr (0, [.ref (b + 1), .ref (b + 2), .null, .null, .int 0]), .inl (cA 0, 8, .inl (fun _ => 0)), .inl (cA 0, 8, .inl (fun _ => 0))] H _ := B
  refine lv_aload_n F.1 F.2.1 dX0_init_20 rfl (lv_at hl 0 rfl) ?_
  refine lv_bipush (v := 8) F.1 F.2.1 dX0_init_21 rfl ?_
  refine bn_arr (t := 0) (N := 8) (a0 := .inl (fun _ => 0)) F B hb0 dX0_init_23 bq_a_int rfl (fun _ => rfl) (by decide) (by decide) (by decide) (by decide) (by decide) (fun H B => ?_)
  have B : BS D b 4 s 3 [.inr (0, [.ref (b + 1), .ref (b + 2), .null, .null, .int 0]), .inl (cA 0, 8, .inl (fun _ => 0)), .inl (cA 0, 8, .inl (fun _ => 0)), .inl (cA 0, 8, .inl (fun _ => 0))] H _ := B
  refine bn_put (k := 2) (ty := .array .int) (T := TX0) F B dX0_init_25 rfl (by decide) fw_X0_18 (Or.inr ⟨rfl, hm, rfl⟩) (by decide +kernel) rfl rfl (ble rfl) (fun H locs B => ?_)
  have B : BS D b 4 s 3 [.inr (0, [.ref (b + 1), .ref (b + 2), .ref (b + 3), .null, .int 0]), .inl (cA 0, 8, .inl (fun _ => 0)), .inl (cA 0, 8, .inl (fun _ => 0)), .inl (cA 0, 8, .inl (fun _ => 0))] H _ := B
  refine lv_aload_n F.1 F.2.1 dX0_init_28 rfl (lv_at hl 0 rfl) ?_
  refine lv_bipush (v := 8) F.1 F.2.1 dX0_init_29 rfl ?_
  refine bn_arr (t := 2) (N := 8) (a0 := .inl (fun _ => 0)) F B hb0 dX0_init_31 bq_a_boolean rfl (fun _ => rfl) (by decide) (by decide) (by decide) (by decide) (by decide) (fun H B => ?_)
  have B : BS D b 5 s 4 [.inr (0, [.ref (b + 1), .ref (b + 2), .ref (b + 3), .null, .int 0]), .inl (cA 0, 8, .inl (fun _ => 0)), .inl (cA 0, 8, .inl (fun _ => 0)), .inl (cA 0, 8, .inl (fun _ => 0)), .inl (cA 2, 8, .inl (fun _ => 0))] H _ := B
  refine bn_put (k := 3) (ty := .array .boolean) (T := TX0) F B dX0_init_33 rfl (by decide) fw_X0_21 (Or.inr ⟨rfl, hm, rfl⟩) (by decide +kernel) rfl rfl (ble rfl) (fun H locs B => ?_)
  have B : BS D b 5 s 4 [.inr (0, [.ref (b + 1), .ref (b + 2), .ref (b + 3), .ref (b + 4), .int 0]), .inl (cA 0, 8, .inl (fun _ => 0)), .inl (cA 0, 8, .inl (fun _ => 0)), .inl (cA 0, 8, .inl (fun _ => 0)), .inl (cA 2, 8, .inl (fun _ => 0))] H _ := B
  exact hE _ _ _ _ dX0_init_36 B
def KX1 : (Nat → ClassId) → Nat → List va_E := fun cA b => [.inr (1, [.int 50, .int 1, .int 0, .int 0])]
theorem M_X1 : bd_M yX1_init cX1_init 1 1 12 0 0 1 (fun _ _ => [.inr (1, [.int 0, .int 0, .int 0, .int 0])]) KX1 := by
  refine bd_M.of (by decide +kernel) (by decide) (fun _ _ => rfl) ?_
  intro p l e R s m args below meth c lo ad D cA b Z ls F hm hlo hO hE B hl
  have hb0 : b ≤ s.heap.size := by have := B.2.2.2.1; omega
  refine lv_aload_n F.1 F.2.1 dX1_init_0 rfl (lv_at hl 0 rfl) ?_
  refine W.objInit F.1 F.2.1 F.2.2.2.1 (F.2.2.2.2.1 _ bq_o1) (F.2.2.2.2.1 _ bq_oi) (F.2.2.2.2.1 _ bq_oc) rfl (hl.1.trans F.2.2.1.symm) rfl dX1_init_1 (Nat.le_trans (ble rfl) F.2.2.2.2.2.2.2.2.2.1) (Nat.le_trans (ble rfl) F.2.2.2.2.2.2.2.2.2.2.1) ?_
  refine W.eq (g2 := F0 m 4 ls []) rfl ?_
  refine lv_aload_n F.1 F.2.1 dX1_init_4 rfl (lv_at hl 0 rfl) ?_
  refine lv_bipush (v := 50) F.1 F.2.1 dX1_init_5 rfl ?_
  refine bn_put (k := 0) (ty := .int) (T := TX1) F B dX1_init_7 rfl (by decide) fw_X1_11 (Or.inl rfl) (by decide +kernel) rfl rfl (ble rfl) (fun H locs B => ?_)
  have B : BS D b 1 s 0 [.inr (1, [.int 50, .int 0, .int 0, .int 0])] H _ := B
  refine lv_aload_n F.1 F.2.1 dX1_init_10 rfl (lv_at hl 0 rfl) ?_
  refine lv_iconst (v := 1) F.1 F.2.1 dX1_init_11 (by decide) ?_
  refine bn_put (k := 1) (ty := .int) (T := TX1) F B dX1_init_12 rfl (by decide) fw_X1_15 (Or.inl rfl) (by decide +kernel) rfl rfl (ble rfl) (fun H locs B => ?_)
  have B : BS D b 1 s 0 [.inr (1, [.int 50, .int 1, .int 0, .int 0])] H _ := B
  exact hE _ _ _ _ dX1_init_15 B
def KX2 : (Nat → ClassId) → Nat → List va_E := fun cA b => [.inr (2, [.ref (b + 1), .ref (b + 2), .ref (b + 3), .ref (b + 4), .int 0]), .inl (cA 0, 48, .inl (fun _ => 0)), .inl (cA 0, 6, .inl (fun _ => 0)), .inl (cA 0, 6, .inl (fun _ => 0)), .inl (cA 0, 6, .inl (fun _ => 0))]
theorem M_X2 : bd_M yX2_init cX2_init 1 1 12 4 66 1 (fun _ _ => [.inr (2, [.null, .null, .null, .null, .int 0])]) KX2 := by
  refine bd_M.of (by decide +kernel) (by decide) (fun _ _ => rfl) ?_
  intro p l e R s m args below meth c lo ad D cA b Z ls F hm hlo hO hE B hl
  have hb0 : b ≤ s.heap.size := by have := B.2.2.2.1; omega
  refine lv_aload_n F.1 F.2.1 dX2_init_0 rfl (lv_at hl 0 rfl) ?_
  refine W.objInit F.1 F.2.1 F.2.2.2.1 (F.2.2.2.2.1 _ bq_o2) (F.2.2.2.2.1 _ bq_oi) (F.2.2.2.2.1 _ bq_oc) rfl (hl.1.trans F.2.2.1.symm) rfl dX2_init_1 (Nat.le_trans (ble rfl) F.2.2.2.2.2.2.2.2.2.1) (Nat.le_trans (ble rfl) F.2.2.2.2.2.2.2.2.2.2.1) ?_
  refine W.eq (g2 := F0 m 4 ls []) rfl ?_
  refine lv_aload_n F.1 F.2.1 dX2_init_4 rfl (lv_at hl 0 rfl) ?_
  refine lv_bipush (v := 48) F.1 F.2.1 dX2_init_5 rfl ?_
  refine bn_arr (t := 0) (N := 48) (a0 := .inl (fun _ => 0)) F B hb0 dX2_init_7 bq_a_int rfl (fun _ => rfl) (by decide) (by decide) (by decide) (by decide) (by decide) (fun H B => ?_)
  have B : BS D b 2 s 1 [.inr (2, [.null, .null, .null, .null, .int 0]), .inl (cA 0, 48, .inl (fun _ => 0))] H _ := B
  refine bn_put (k := 0) (ty := .array .int) (T := TX2) F B dX2_init_9 rfl (by decide) fw_X2_9 (Or.inr ⟨rfl, hm, rfl⟩) (by decide +kernel) rfl rfl (ble rfl) (fun H locs B => ?_)
  have B : BS D b 2 s 1 [.inr (2, [.ref (b + 1), .null, .null, .null, .int 0]), .inl (cA 0, 48, .inl (fun _ => 0))] H _ := B
  refine lv_aload_n F.1 F.2.1 dX2_init_12 rfl (lv_at hl 0 rfl) ?_
  refine lv_bipush (v := 6) F.1 F.2.1 dX2_init_13 rfl ?_
  refine bn_arr (t := 0) (N := 6) (a0 := .inl (fun _ => 0)) F B hb0 dX2_init_15 bq_a_int rfl (fun _ => rfl) (by decide) (by decide) (by decide) (by decide) (by decide) (fun H B => ?_)
  have B : BS D b 3 s 2 [.inr (2, [.ref (b + 1), .null, .null, .null, .int 0]), .inl (cA 0, 48, .inl (fun _ => 0)), .inl (cA 0, 6, .inl (fun _ => 0))] H _ := B
  refine bn_put (k := 1) (ty := .array .int) (T := TX2) F B dX2_init_17 rfl (by decide) fw_X2_15 (Or.inr ⟨rfl, hm, rfl⟩) (by decide +kernel) rfl rfl (ble rfl) (fun H locs B => ?_)
  have B : BS D b 3 s 2 [.inr (2, [.ref (b + 1), .ref (b + 2), .null, .null, .int 0]), .inl (cA 0, 48, .inl (fun _ => 0)), .inl (cA 0, 6, .inl (fun _ => 0))] H _ := B
  refine lv_aload_n F.1 F.2.1 dX2_init_20 rfl (lv_at hl 0 rfl) ?_
  refine lv_bipush (v := 6) F.1 F.2.1 dX2_init_21 rfl ?_
  refine bn_arr (t := 0) (N := 6) (a0 := .inl (fun _ => 0)) F B hb0 dX2_init_23 bq_a_int rfl (fun _ => rfl) (by decide) (by decide) (by decide) (by decide) (by decide) (fun H B => ?_)
  have B : BS D b 4 s 3 [.inr (2, [.ref (b + 1), .ref (b + 2), .null, .null, .int 0]), .inl (cA 0, 48, .inl (fun _ => 0)), .inl (cA 0, 6, .inl (fun _ => 0)), .inl (cA 0, 6, .inl (fun _ => 0))] H _ := B
  refine bn_put (k := 2) (ty := .array .int) (T := TX2) F B dX2_init_25 rfl (by decide) fw_X2_18 (Or.inr ⟨rfl, hm, rfl⟩) (by decide +kernel) rfl rfl (ble rfl) (fun H locs B => ?_)
  have B : BS D b 4 s 3 [.inr (2, [.ref (b + 1), .ref (b + 2), .ref (b + 3), .null, .int 0]), .inl (cA 0, 48, .inl (fun _ => 0)), .inl (cA 0, 6, .inl (fun _ => 0)), .inl (cA 0, 6, .inl (fun _ => 0))] H _ := B
  refine lv_aload_n F.1 F.2.1 dX2_init_28 rfl (lv_at hl 0 rfl) ?_
  refine lv_bipush (v := 6) F.1 F.2.1 dX2_init_29 rfl ?_
  refine bn_arr (t := 0) (N := 6) (a0 := .inl (fun _ => 0)) F B hb0 dX2_init_31 bq_a_int rfl (fun _ => rfl) (by decide) (by decide) (by decide) (by decide) (by decide) (fun H B => ?_)
  have B : BS D b 5 s 4 [.inr (2, [.ref (b + 1), .ref (b + 2), .ref (b + 3), .null, .int 0]), .inl (cA 0, 48, .inl (fun _ => 0)), .inl (cA 0, 6, .inl (fun _ => 0)), .inl (cA 0, 6, .inl (fun _ => 0)), .inl (cA 0, 6, .inl (fun _ => 0))] H _ := B
  refine bn_put (k := 3) (ty := .array .int) (T := TX2) F B dX2_init_33 rfl (by decide) fw_X2_21 (Or.inr ⟨rfl, hm, rfl⟩) (by decide +kernel) rfl rfl (ble rfl) (fun H locs B => ?_)
  have B : BS D b 5 s 4 [.inr (2, [.ref (b + 1), .ref (b + 2), .ref (b + 3), .ref (b + 4), .int 0]), .inl (cA 0, 48, .inl (fun _ => 0)), .inl (cA 0, 6, .inl (fun _ => 0)), .inl (cA 0, 6, .inl (fun _ => 0)), .inl (cA 0, 6, .inl (fun _ => 0))] H _ := B
  exact hE _ _ _ _ dX2_init_36 B
def KX3 : (Nat → ClassId) → Nat → List va_E := fun cA b => [.inr (3, [.ref (b + 1), .ref (b + 2), .ref (b + 3), .ref (b + 4), .int 1]), .inl (cA 0, 21, .inl (fun _ => 0)), .inl (cA 0, 21, .inl (fun _ => 0)), .inl (cA 2, 21, .inl (fun _ => 0)), .inl (cA 0, 6, .inl (fun _ => 0))]
theorem M_X3 : bd_M yX3_init cX3_init 1 1 12 4 69 1 (fun _ _ => [.inr (3, [.null, .null, .null, .null, .int 0])]) KX3 := by
  refine bd_M.of (by decide +kernel) (by decide) (fun _ _ => rfl) ?_
  intro p l e R s m args below meth c lo ad D cA b Z ls F hm hlo hO hE B hl
  have hb0 : b ≤ s.heap.size := by have := B.2.2.2.1; omega
  refine lv_aload_n F.1 F.2.1 dX3_init_0 rfl (lv_at hl 0 rfl) ?_
  refine W.objInit F.1 F.2.1 F.2.2.2.1 (F.2.2.2.2.1 _ bq_o3) (F.2.2.2.2.1 _ bq_oi) (F.2.2.2.2.1 _ bq_oc) rfl (hl.1.trans F.2.2.1.symm) rfl dX3_init_1 (Nat.le_trans (ble rfl) F.2.2.2.2.2.2.2.2.2.1) (Nat.le_trans (ble rfl) F.2.2.2.2.2.2.2.2.2.2.1) ?_
  refine W.eq (g2 := F0 m 4 ls []) rfl ?_
  refine lv_aload_n F.1 F.2.1 dX3_init_4 rfl (lv_at hl 0 rfl) ?_
  refine lv_bipush (v := 21) F.1 F.2.1 dX3_init_5 rfl ?_
  refine bn_arr (t := 0) (N := 21) (a0 := .inl (fun _ => 0)) F B hb0 dX3_init_7 bq_a_int rfl (fun _ => rfl) (by decide) (by decide) (by decide) (by decide) (by decide) (fun H B => ?_)
  have B : BS D b 2 s 1 [.inr (3, [.null, .null, .null, .null, .int 0]), .inl (cA 0, 21, .inl (fun _ => 0))] H _ := B
  refine bn_put (k := 0) (ty := .array .int) (T := TX3) F B dX3_init_9 rfl (by decide) fw_X3_9 (Or.inr ⟨rfl, hm, rfl⟩) (by decide +kernel) rfl rfl (ble rfl) (fun H locs B => ?_)
  have B : BS D b 2 s 1 [.inr (3, [.ref (b + 1), .null, .null, .null, .int 0]), .inl (cA 0, 21, .inl (fun _ => 0))] H _ := B
  refine lv_aload_n F.1 F.2.1 dX3_init_12 rfl (lv_at hl 0 rfl) ?_
  refine lv_bipush (v := 21) F.1 F.2.1 dX3_init_13 rfl ?_
  refine bn_arr (t := 0) (N := 21) (a0 := .inl (fun _ => 0)) F B hb0 dX3_init_15 bq_a_int rfl (fun _ => rfl) (by decide) (by decide) (by decide) (by decide) (by decide) (fun H B => ?_)
  have B : BS D b 3 s 2 [.inr (3, [.ref (b + 1), .null, .null, .null, .int 0]), .inl (cA 0, 21, .inl (fun _ => 0)), .inl (cA 0, 21, .inl (fun _ => 0))] H _ := B
  refine bn_put (k := 1) (ty := .array .int) (T := TX3) F B dX3_init_17 rfl (by decide) fw_X3_15 (Or.inr ⟨rfl, hm, rfl⟩) (by decide +kernel) rfl rfl (ble rfl) (fun H locs B => ?_)
  have B : BS D b 3 s 2 [.inr (3, [.ref (b + 1), .ref (b + 2), .null, .null, .int 0]), .inl (cA 0, 21, .inl (fun _ => 0)), .inl (cA 0, 21, .inl (fun _ => 0))] H _ := B
  refine lv_aload_n F.1 F.2.1 dX3_init_20 rfl (lv_at hl 0 rfl) ?_
  refine lv_bipush (v := 21) F.1 F.2.1 dX3_init_21 rfl ?_
  refine bn_arr (t := 2) (N := 21) (a0 := .inl (fun _ => 0)) F B hb0 dX3_init_23 bq_a_boolean rfl (fun _ => rfl) (by decide) (by decide) (by decide) (by decide) (by decide) (fun H B => ?_)
  have B : BS D b 4 s 3 [.inr (3, [.ref (b + 1), .ref (b + 2), .null, .null, .int 0]), .inl (cA 0, 21, .inl (fun _ => 0)), .inl (cA 0, 21, .inl (fun _ => 0)), .inl (cA 2, 21, .inl (fun _ => 0))] H _ := B
  refine bn_put (k := 2) (ty := .array .boolean) (T := TX3) F B dX3_init_25 rfl (by decide) fw_X3_18 (Or.inr ⟨rfl, hm, rfl⟩) (by decide +kernel) rfl rfl (ble rfl) (fun H locs B => ?_)
  have B : BS D b 4 s 3 [.inr (3, [.ref (b + 1), .ref (b + 2), .ref (b + 3), .null, .int 0]), .inl (cA 0, 21, .inl (fun _ => 0)), .inl (cA 0, 21, .inl (fun _ => 0)), .inl (cA 2, 21, .inl (fun _ => 0))] H _ := B
  refine lv_aload_n F.1 F.2.1 dX3_init_28 rfl (lv_at hl 0 rfl) ?_
  refine lv_bipush (v := 6) F.1 F.2.1 dX3_init_29 rfl ?_
  refine bn_arr (t := 0) (N := 6) (a0 := .inl (fun _ => 0)) F B hb0 dX3_init_31 bq_a_int rfl (fun _ => rfl) (by decide) (by decide) (by decide) (by decide) (by decide) (fun H B => ?_)
  have B : BS D b 5 s 4 [.inr (3, [.ref (b + 1), .ref (b + 2), .ref (b + 3), .null, .int 0]), .inl (cA 0, 21, .inl (fun _ => 0)), .inl (cA 0, 21, .inl (fun _ => 0)), .inl (cA 2, 21, .inl (fun _ => 0)), .inl (cA 0, 6, .inl (fun _ => 0))] H _ := B
  refine bn_put (k := 3) (ty := .array .int) (T := TX3) F B dX3_init_33 rfl (by decide) fw_X3_22 (Or.inr ⟨rfl, hm, rfl⟩) (by decide +kernel) rfl rfl (ble rfl) (fun H locs B => ?_)
  have B : BS D b 5 s 4 [.inr (3, [.ref (b + 1), .ref (b + 2), .ref (b + 3), .ref (b + 4), .int 0]), .inl (cA 0, 21, .inl (fun _ => 0)), .inl (cA 0, 21, .inl (fun _ => 0)), .inl (cA 2, 21, .inl (fun _ => 0)), .inl (cA 0, 6, .inl (fun _ => 0))] H _ := B
  refine lv_aload_n F.1 F.2.1 dX3_init_36 rfl (lv_at hl 0 rfl) ?_
  refine lv_iconst (v := 1) F.1 F.2.1 dX3_init_37 (by decide) ?_
  refine bn_put (k := 4) (ty := .int) (T := TX3) F B dX3_init_38 rfl (by decide) fw_X3_25 (Or.inl rfl) (by decide +kernel) rfl rfl (ble rfl) (fun H locs B => ?_)
  have B : BS D b 5 s 4 [.inr (3, [.ref (b + 1), .ref (b + 2), .ref (b + 3), .ref (b + 4), .int 1]), .inl (cA 0, 21, .inl (fun _ => 0)), .inl (cA 0, 21, .inl (fun _ => 0)), .inl (cA 2, 21, .inl (fun _ => 0)), .inl (cA 0, 6, .inl (fun _ => 0))] H _ := B
  exact hE _ _ _ _ dX3_init_41 B
def KX6 : (Nat → ClassId) → Nat → List va_E := fun cA b => [.inr (6, [.ref (b + 1), .int 0]), .inl (cA 1, 294, .inl (fun _ => 0))]
theorem M_X6 : bd_M yX6_init cX6_init 1 1 12 1 294 1 (fun _ _ => [.inr (6, [.null, .int 0])]) KX6 := by
  refine bd_M.of (by decide +kernel) (by decide) (fun _ _ => rfl) ?_
  intro p l e R s m args below meth c lo ad D cA b Z ls F hm hlo hO hE B hl
  have hb0 : b ≤ s.heap.size := by have := B.2.2.2.1; omega
  refine lv_aload_n F.1 F.2.1 dX6_init_0 rfl (lv_at hl 0 rfl) ?_
  refine W.objInit F.1 F.2.1 F.2.2.2.1 (F.2.2.2.2.1 _ bq_o6) (F.2.2.2.2.1 _ bq_oi) (F.2.2.2.2.1 _ bq_oc) rfl (hl.1.trans F.2.2.1.symm) rfl dX6_init_1 (Nat.le_trans (ble rfl) F.2.2.2.2.2.2.2.2.2.1) (Nat.le_trans (ble rfl) F.2.2.2.2.2.2.2.2.2.2.1) ?_
  refine W.eq (g2 := F0 m 4 ls []) rfl ?_
  refine lv_aload_n F.1 F.2.1 dX6_init_4 rfl (lv_at hl 0 rfl) ?_
  refine lv_sipush (v := 294) F.1 F.2.1 dX6_init_5 rfl ?_
  refine bn_arr (t := 1) (N := 294) (a0 := .inl (fun _ => 0)) F B hb0 dX6_init_8 bq_a_byte rfl (fun _ => rfl) (by decide) (by decide) (by decide) (by decide) (by decide) (fun H B => ?_)
  have B : BS D b 2 s 1 [.inr (6, [.null, .int 0]), .inl (cA 1, 294, .inl (fun _ => 0))] H _ := B
  refine bn_put (k := 0) (ty := .array .byte) (T := TX6) F B dX6_init_10 rfl (by decide) fw_X6_11 (Or.inr ⟨rfl, hm, rfl⟩) (by decide +kernel) rfl rfl (ble rfl) (fun H locs B => ?_)
  have B : BS D b 2 s 1 [.inr (6, [.ref (b + 1), .int 0]), .inl (cA 1, 294, .inl (fun _ => 0))] H _ := B
  exact hE _ _ _ _ dX6_init_13 B
def KX7 : (Nat → ClassId) → Nat → List va_E := fun cA b => [.inr (7, [.ref (b + 1), .ref (b + 2), .int 0]), .inl (cA 0, 44, .inl (fun _ => 0)), .inl (cA 0, 44, .inl (fun _ => 0))]
theorem M_X7 : bd_M yX7_init cX7_init 1 1 12 2 88 1 (fun _ _ => [.inr (7, [.null, .null, .int 0])]) KX7 := by
  refine bd_M.of (by decide +kernel) (by decide) (fun _ _ => rfl) ?_
  intro p l e R s m args below meth c lo ad D cA b Z ls F hm hlo hO hE B hl
  have hb0 : b ≤ s.heap.size := by have := B.2.2.2.1; omega
  refine lv_aload_n F.1 F.2.1 dX7_init_0 rfl (lv_at hl 0 rfl) ?_
  refine W.objInit F.1 F.2.1 F.2.2.2.1 (F.2.2.2.2.1 _ bq_o7) (F.2.2.2.2.1 _ bq_oi) (F.2.2.2.2.1 _ bq_oc) rfl (hl.1.trans F.2.2.1.symm) rfl dX7_init_1 (Nat.le_trans (ble rfl) F.2.2.2.2.2.2.2.2.2.1) (Nat.le_trans (ble rfl) F.2.2.2.2.2.2.2.2.2.2.1) ?_
  refine W.eq (g2 := F0 m 4 ls []) rfl ?_
  refine lv_aload_n F.1 F.2.1 dX7_init_4 rfl (lv_at hl 0 rfl) ?_
  refine lv_bipush (v := 44) F.1 F.2.1 dX7_init_5 rfl ?_
  refine bn_arr (t := 0) (N := 44) (a0 := .inl (fun _ => 0)) F B hb0 dX7_init_7 bq_a_int rfl (fun _ => rfl) (by decide) (by decide) (by decide) (by decide) (by decide) (fun H B => ?_)
  have B : BS D b 2 s 1 [.inr (7, [.null, .null, .int 0]), .inl (cA 0, 44, .inl (fun _ => 0))] H _ := B
  refine bn_put (k := 0) (ty := .array .int) (T := TX7) F B dX7_init_9 rfl (by decide) fw_X7_9 (Or.inr ⟨rfl, hm, rfl⟩) (by decide +kernel) rfl rfl (ble rfl) (fun H locs B => ?_)
  have B : BS D b 2 s 1 [.inr (7, [.ref (b + 1), .null, .int 0]), .inl (cA 0, 44, .inl (fun _ => 0))] H _ := B
  refine lv_aload_n F.1 F.2.1 dX7_init_12 rfl (lv_at hl 0 rfl) ?_
  refine lv_bipush (v := 44) F.1 F.2.1 dX7_init_13 rfl ?_
  refine bn_arr (t := 0) (N := 44) (a0 := .inl (fun _ => 0)) F B hb0 dX7_init_15 bq_a_int rfl (fun _ => rfl) (by decide) (by decide) (by decide) (by decide) (by decide) (fun H B => ?_)
  have B : BS D b 3 s 2 [.inr (7, [.ref (b + 1), .null, .int 0]), .inl (cA 0, 44, .inl (fun _ => 0)), .inl (cA 0, 44, .inl (fun _ => 0))] H _ := B
  refine bn_put (k := 1) (ty := .array .int) (T := TX7) F B dX7_init_17 rfl (by decide) fw_X7_15 (Or.inr ⟨rfl, hm, rfl⟩) (by decide +kernel) rfl rfl (ble rfl) (fun H locs B => ?_)
  have B : BS D b 3 s 2 [.inr (7, [.ref (b + 1), .ref (b + 2), .int 0]), .inl (cA 0, 44, .inl (fun _ => 0)), .inl (cA 0, 44, .inl (fun _ => 0))] H _ := B
  exact hE _ _ _ _ dX7_init_20 B
def KX8 : (Nat → ClassId) → Nat → List va_E := fun cA b => [.inr (8, [.ref (b + 1), .ref (b + 2), .ref (b + 3), .ref (b + 4), .int 0, .int 0, .int 0]), .inl (cA 0, 60, .inl (fun _ => 0)), .inl (cA 0, 60, .inl (fun _ => 0)), .inl (cA 0, 60, .inl (fun _ => 0)), .inl (cA 0, 2, .inl (fun _ => 0))]
theorem M_X8 : bd_M yX8_init cX8_init 1 1 12 4 182 1 (fun _ _ => [.inr (8, [.null, .null, .null, .null, .int 0, .int 0, .int 0])]) KX8 := by
  refine bd_M.of (by decide +kernel) (by decide) (fun _ _ => rfl) ?_
  intro p l e R s m args below meth c lo ad D cA b Z ls F hm hlo hO hE B hl
  have hb0 : b ≤ s.heap.size := by have := B.2.2.2.1; omega
  refine lv_aload_n F.1 F.2.1 dX8_init_0 rfl (lv_at hl 0 rfl) ?_
  refine W.objInit F.1 F.2.1 F.2.2.2.1 (F.2.2.2.2.1 _ bq_o8) (F.2.2.2.2.1 _ bq_oi) (F.2.2.2.2.1 _ bq_oc) rfl (hl.1.trans F.2.2.1.symm) rfl dX8_init_1 (Nat.le_trans (ble rfl) F.2.2.2.2.2.2.2.2.2.1) (Nat.le_trans (ble rfl) F.2.2.2.2.2.2.2.2.2.2.1) ?_
  refine W.eq (g2 := F0 m 4 ls []) rfl ?_
  refine lv_aload_n F.1 F.2.1 dX8_init_4 rfl (lv_at hl 0 rfl) ?_
  refine lv_bipush (v := 60) F.1 F.2.1 dX8_init_5 rfl ?_
  refine bn_arr (t := 0) (N := 60) (a0 := .inl (fun _ => 0)) F B hb0 dX8_init_7 bq_a_int rfl (fun _ => rfl) (by decide) (by decide) (by decide) (by decide) (by decide) (fun H B => ?_)
  have B : BS D b 2 s 1 [.inr (8, [.null, .null, .null, .null, .int 0, .int 0, .int 0]), .inl (cA 0, 60, .inl (fun _ => 0))] H _ := B
  refine bn_put (k := 0) (ty := .array .int) (T := TX8) F B dX8_init_9 rfl (by decide) fw_X8_11 (Or.inr ⟨rfl, hm, rfl⟩) (by decide +kernel) rfl rfl (ble rfl) (fun H locs B => ?_)
  have B : BS D b 2 s 1 [.inr (8, [.ref (b + 1), .null, .null, .null, .int 0, .int 0, .int 0]), .inl (cA 0, 60, .inl (fun _ => 0))] H _ := B
  refine lv_aload_n F.1 F.2.1 dX8_init_12 rfl (lv_at hl 0 rfl) ?_
  refine lv_bipush (v := 60) F.1 F.2.1 dX8_init_13 rfl ?_
  refine bn_arr (t := 0) (N := 60) (a0 := .inl (fun _ => 0)) F B hb0 dX8_init_15 bq_a_int rfl (fun _ => rfl) (by decide) (by decide) (by decide) (by decide) (by decide) (fun H B => ?_)
  have B : BS D b 3 s 2 [.inr (8, [.ref (b + 1), .null, .null, .null, .int 0, .int 0, .int 0]), .inl (cA 0, 60, .inl (fun _ => 0)), .inl (cA 0, 60, .inl (fun _ => 0))] H _ := B
  refine bn_put (k := 1) (ty := .array .int) (T := TX8) F B dX8_init_17 rfl (by decide) fw_X8_15 (Or.inr ⟨rfl, hm, rfl⟩) (by decide +kernel) rfl rfl (ble rfl) (fun H locs B => ?_)
  have B : BS D b 3 s 2 [.inr (8, [.ref (b + 1), .ref (b + 2), .null, .null, .int 0, .int 0, .int 0]), .inl (cA 0, 60, .inl (fun _ => 0)), .inl (cA 0, 60, .inl (fun _ => 0))] H _ := B
  refine lv_aload_n F.1 F.2.1 dX8_init_20 rfl (lv_at hl 0 rfl) ?_
  refine lv_bipush (v := 60) F.1 F.2.1 dX8_init_21 rfl ?_
  refine bn_arr (t := 0) (N := 60) (a0 := .inl (fun _ => 0)) F B hb0 dX8_init_23 bq_a_int rfl (fun _ => rfl) (by decide) (by decide) (by decide) (by decide) (by decide) (fun H B => ?_)
  have B : BS D b 4 s 3 [.inr (8, [.ref (b + 1), .ref (b + 2), .null, .null, .int 0, .int 0, .int 0]), .inl (cA 0, 60, .inl (fun _ => 0)), .inl (cA 0, 60, .inl (fun _ => 0)), .inl (cA 0, 60, .inl (fun _ => 0))] H _ := B
  refine bn_put (k := 2) (ty := .array .int) (T := TX8) F B dX8_init_25 rfl (by decide) fw_X8_18 (Or.inr ⟨rfl, hm, rfl⟩) (by decide +kernel) rfl rfl (ble rfl) (fun H locs B => ?_)
  have B : BS D b 4 s 3 [.inr (8, [.ref (b + 1), .ref (b + 2), .ref (b + 3), .null, .int 0, .int 0, .int 0]), .inl (cA 0, 60, .inl (fun _ => 0)), .inl (cA 0, 60, .inl (fun _ => 0)), .inl (cA 0, 60, .inl (fun _ => 0))] H _ := B
  refine lv_aload_n F.1 F.2.1 dX8_init_28 rfl (lv_at hl 0 rfl) ?_
  refine lv_iconst (v := 2) F.1 F.2.1 dX8_init_29 (by decide) ?_
  refine bn_arr (t := 0) (N := 2) (a0 := .inl (fun _ => 0)) F B hb0 dX8_init_30 bq_a_int rfl (fun _ => rfl) (by decide) (by decide) (by decide) (by decide) (by decide) (fun H B => ?_)
  have B : BS D b 5 s 4 [.inr (8, [.ref (b + 1), .ref (b + 2), .ref (b + 3), .null, .int 0, .int 0, .int 0]), .inl (cA 0, 60, .inl (fun _ => 0)), .inl (cA 0, 60, .inl (fun _ => 0)), .inl (cA 0, 60, .inl (fun _ => 0)), .inl (cA 0, 2, .inl (fun _ => 0))] H _ := B
  refine bn_put (k := 3) (ty := .array .int) (T := TX8) F B dX8_init_32 rfl (by decide) fw_X8_21 (Or.inr ⟨rfl, hm, rfl⟩) (by decide +kernel) rfl rfl (ble rfl) (fun H locs B => ?_)
  have B : BS D b 5 s 4 [.inr (8, [.ref (b + 1), .ref (b + 2), .ref (b + 3), .ref (b + 4), .int 0, .int 0, .int 0]), .inl (cA 0, 60, .inl (fun _ => 0)), .inl (cA 0, 60, .inl (fun _ => 0)), .inl (cA 0, 60, .inl (fun _ => 0)), .inl (cA 0, 2, .inl (fun _ => 0))] H _ := B
  exact hE _ _ _ _ dX8_init_35 B
def KX9 : (Nat → ClassId) → Nat → List va_E := fun cA b => [.inr (9, [.int 0, .int 0, .int 0])]
theorem M_X9 : bd_M yX9_init cX9_init 1 1 12 0 0 1 (fun _ _ => [.inr (9, [.int 0, .int 0, .int 0])]) KX9 := by
  refine bd_M.of (by decide +kernel) (by decide) (fun _ _ => rfl) ?_
  intro p l e R s m args below meth c lo ad D cA b Z ls F hm hlo hO hE B hl
  have hb0 : b ≤ s.heap.size := by have := B.2.2.2.1; omega
  refine lv_aload_n F.1 F.2.1 dX9_init_0 rfl (lv_at hl 0 rfl) ?_
  refine W.objInit F.1 F.2.1 F.2.2.2.1 (F.2.2.2.2.1 _ bq_o9) (F.2.2.2.2.1 _ bq_oi) (F.2.2.2.2.1 _ bq_oc) rfl (hl.1.trans F.2.2.1.symm) rfl dX9_init_1 (Nat.le_trans (ble rfl) F.2.2.2.2.2.2.2.2.2.1) (Nat.le_trans (ble rfl) F.2.2.2.2.2.2.2.2.2.2.1) ?_
  refine W.eq (g2 := F0 m 4 ls []) rfl ?_
  exact hE _ _ _ _ dX9_init_4 B
def KX10 : (Nat → ClassId) → Nat → List va_E := fun cA b => [.inr (10, [.ref (b + 1), .int 0, .int 0, .int 0, .int 0, .int 0, .int 0, .int (-1)]), .inl (cA 1, 500, .inl (fun _ => 0))]
theorem M_X10 : bd_M yX10_init cX10_init 1 1 12 1 500 1 (fun _ _ => [.inr (10, [.null, .int 0, .int 0, .int 0, .int 0, .int 0, .int 0, .int 0])]) KX10 := by
  refine bd_M.of (by decide +kernel) (by decide) (fun _ _ => rfl) ?_
  intro p l e R s m args below meth c lo ad D cA b Z ls F hm hlo hO hE B hl
  have hb0 : b ≤ s.heap.size := by have := B.2.2.2.1; omega
  refine lv_aload_n F.1 F.2.1 dX10_init_0 rfl (lv_at hl 0 rfl) ?_
  refine W.objInit F.1 F.2.1 F.2.2.2.1 (F.2.2.2.2.1 _ bq_o10) (F.2.2.2.2.1 _ bq_oi) (F.2.2.2.2.1 _ bq_oc) rfl (hl.1.trans F.2.2.1.symm) rfl dX10_init_1 (Nat.le_trans (ble rfl) F.2.2.2.2.2.2.2.2.2.1) (Nat.le_trans (ble rfl) F.2.2.2.2.2.2.2.2.2.2.1) ?_
  refine W.eq (g2 := F0 m 4 ls []) rfl ?_
  refine lv_aload_n F.1 F.2.1 dX10_init_4 rfl (lv_at hl 0 rfl) ?_
  refine lv_sipush (v := 500) F.1 F.2.1 dX10_init_5 rfl ?_
  refine bn_arr (t := 1) (N := 500) (a0 := .inl (fun _ => 0)) F B hb0 dX10_init_8 bq_a_byte rfl (fun _ => rfl) (by decide) (by decide) (by decide) (by decide) (by decide) (fun H B => ?_)
  have B : BS D b 2 s 1 [.inr (10, [.null, .int 0, .int 0, .int 0, .int 0, .int 0, .int 0, .int 0]), .inl (cA 1, 500, .inl (fun _ => 0))] H _ := B
  refine bn_put (k := 0) (ty := .array .byte) (T := TX10) F B dX10_init_10 rfl (by decide) fw_X10_9 (Or.inr ⟨rfl, hm, rfl⟩) (by decide +kernel) rfl rfl (ble rfl) (fun H locs B => ?_)
  have B : BS D b 2 s 1 [.inr (10, [.ref (b + 1), .int 0, .int 0, .int 0, .int 0, .int 0, .int 0, .int 0]), .inl (cA 1, 500, .inl (fun _ => 0))] H _ := B
  refine lv_aload_n F.1 F.2.1 dX10_init_13 rfl (lv_at hl 0 rfl) ?_
  refine lv_iconst (v := (-1)) F.1 F.2.1 dX10_init_14 (by decide) ?_
  refine bn_put (k := 7) (ty := .int) (T := TX10) F B dX10_init_15 rfl (by decide) fw_X10_15 (Or.inl rfl) (by decide +kernel) rfl rfl (ble rfl) (fun H locs B => ?_)
  have B : BS D b 2 s 1 [.inr (10, [.ref (b + 1), .int 0, .int 0, .int 0, .int 0, .int 0, .int 0, .int (-1)]), .inl (cA 1, 500, .inl (fun _ => 0))] H _ := B
  exact hE _ _ _ _ dX10_init_18 B
