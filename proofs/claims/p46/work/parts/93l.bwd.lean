/-! words of building -/
theorem bq_oi : Cond.instanceMethod objectInit ∈ am_gT := am_w 69 (by decide +kernel) rfl
theorem bq_oc : Cond.code objectInit ⟨#[0xb1]⟩ 1 none ∈ am_gT := am_w 70 (by decide +kernel) rfl
theorem bq_a_int : Cond.arrayClass .int ∈ am_gT := am_w 103 (by decide +kernel) rfl
theorem bq_a_boolean : Cond.arrayClass .boolean ∈ am_gT := am_w 104 (by decide +kernel) rfl
theorem bq_a_byte : Cond.arrayClass .byte ∈ am_gT := am_w 320 (by decide +kernel) rfl
theorem bq_ao : Cond.arrayOver (.object RX5) ∈ lw_tbl := List.mem_of_getElem? (i := 255) (by decide +kernel)
theorem bq_n0 : Cond.instantiable RX0 5 ∈ am_gT := am_w 78 (by decide +kernel) rfl
theorem bq_i0 : Cond.initialized RX0 ∈ am_gT := am_w 45 (by decide +kernel) rfl
theorem bq_y0 : bd_y yX0_init cX0_init 1 := ⟨am_w 81 (by decide +kernel) rfl, am_w 80 (by decide +kernel) rfl, bq_i0, by decide +kernel, by decide +kernel, by decide +kernel⟩
theorem bq_n1 : Cond.instantiable RX1 4 ∈ am_gT := am_w 171 (by decide +kernel) rfl
theorem bq_i1 : Cond.initialized RX1 ∈ am_gT := am_w 48 (by decide +kernel) rfl
theorem bq_y1 : bd_y yX1_init cX1_init 1 := ⟨am_w 174 (by decide +kernel) rfl, am_w 173 (by decide +kernel) rfl, bq_i1, by decide +kernel, by decide +kernel, by decide +kernel⟩
theorem bq_n2 : Cond.instantiable RX2 5 ∈ am_gT := am_w 142 (by decide +kernel) rfl
theorem bq_i2 : Cond.initialized RX2 ∈ am_gT := am_w 47 (by decide +kernel) rfl
theorem bq_y2 : bd_y yX2_init cX2_init 1 := ⟨am_w 145 (by decide +kernel) rfl, am_w 144 (by decide +kernel) rfl, bq_i2, by decide +kernel, by decide +kernel, by decide +kernel⟩
theorem bq_n3 : Cond.instantiable RX3 5 ∈ am_gT := am_w 259 (by decide +kernel) rfl
theorem bq_i3 : Cond.initialized RX3 ∈ am_gT := am_w 50 (by decide +kernel) rfl
theorem bq_y3 : bd_y yX3_init cX3_init 1 := ⟨am_w 262 (by decide +kernel) rfl, am_w 261 (by decide +kernel) rfl, bq_i3, by decide +kernel, by decide +kernel, by decide +kernel⟩
theorem bq_n4 : Cond.instantiable RX4 5 ∈ am_gT := am_w 106 (by decide +kernel) rfl
theorem bq_i4 : Cond.initialized RX4 ∈ am_gT := am_w 46 (by decide +kernel) rfl
theorem bq_y4 : bd_y yX4_init cX4_init 1 := ⟨am_w 109 (by decide +kernel) rfl, am_w 108 (by decide +kernel) rfl, bq_i4, by decide +kernel, by decide +kernel, by decide +kernel⟩
theorem bq_n5 : Cond.instantiable RX5 6 ∈ am_gT := am_w 72 (by decide +kernel) rfl
theorem bq_i5 : Cond.initialized RX5 ∈ am_gT := am_w 44 (by decide +kernel) rfl
theorem bq_y5 : bd_y yX5_init cX5_init 1 := ⟨am_w 75 (by decide +kernel) rfl, am_w 74 (by decide +kernel) rfl, bq_i5, by decide +kernel, by decide +kernel, by decide +kernel⟩
theorem bq_n6 : Cond.instantiable RX6 2 ∈ am_gT := am_w 363 (by decide +kernel) rfl
theorem bq_i6 : Cond.initialized RX6 ∈ am_gT := am_w 54 (by decide +kernel) rfl
theorem bq_y6 : bd_y yX6_init cX6_init 1 := ⟨am_w 366 (by decide +kernel) rfl, am_w 365 (by decide +kernel) rfl, bq_i6, by decide +kernel, by decide +kernel, by decide +kernel⟩
theorem bq_n7 : Cond.instantiable RX7 3 ∈ am_gT := am_w 197 (by decide +kernel) rfl
theorem bq_i7 : Cond.initialized RX7 ∈ am_gT := am_w 49 (by decide +kernel) rfl
theorem bq_y7 : bd_y yX7_init cX7_init 1 := ⟨am_w 200 (by decide +kernel) rfl, am_w 199 (by decide +kernel) rfl, bq_i7, by decide +kernel, by decide +kernel, by decide +kernel⟩
theorem bq_n8 : Cond.instantiable RX8 7 ∈ am_gT := am_w 338 (by decide +kernel) rfl
theorem bq_i8 : Cond.initialized RX8 ∈ am_gT := am_w 53 (by decide +kernel) rfl
theorem bq_y8 : bd_y yX8_init cX8_init 1 := ⟨am_w 341 (by decide +kernel) rfl, am_w 340 (by decide +kernel) rfl, bq_i8, by decide +kernel, by decide +kernel, by decide +kernel⟩
theorem bq_n9 : Cond.instantiable RX9 3 ∈ am_gT := am_w 322 (by decide +kernel) rfl
theorem bq_i9 : Cond.initialized RX9 ∈ am_gT := am_w 52 (by decide +kernel) rfl
theorem bq_y9 : bd_y yX9_init cX9_init 1 := ⟨am_w 325 (by decide +kernel) rfl, am_w 324 (by decide +kernel) rfl, bq_i9, by decide +kernel, by decide +kernel, by decide +kernel⟩
theorem bq_n10 : Cond.instantiable RX10 8 ∈ am_gT := am_w 284 (by decide +kernel) rfl
theorem bq_i10 : Cond.initialized RX10 ∈ am_gT := am_w 51 (by decide +kernel) rfl
theorem bq_y10 : bd_y yX10_init cX10_init 1 := ⟨am_w 287 (by decide +kernel) rfl, am_w 286 (by decide +kernel) rfl, bq_i10, by decide +kernel, by decide +kernel, by decide +kernel⟩
theorem bq_n11 : Cond.instantiable RX11 13 ∈ am_gT := am_w 64 (by decide +kernel) rfl
theorem bq_i11 : Cond.initialized RX11 ∈ am_gT := am_w 43 (by decide +kernel) rfl
theorem bq_y11 : bd_y yX11_init cX11_init 2 := ⟨am_w 67 (by decide +kernel) rfl, am_w 66 (by decide +kernel) rfl, bq_i11, by decide +kernel, by decide +kernel, by decide +kernel⟩
theorem bq_z4 : bd_y yX4_clear cX4_clear 2 := ⟨am_w 114 (by decide +kernel) rfl, am_w 112 (by decide +kernel) rfl, bq_i4, by decide +kernel, by decide +kernel, by decide +kernel⟩
theorem bq_s4 : Cond.selects RX4 yX4_clear yX4_clear ∈ am_gT := am_w 113 (by decide +kernel) rfl
theorem bq_d0 : ∀ j, j < 5 → (parseFieldDescriptor (TX0 j).2.2.1).map defaultValue = some (vp_V [.null, .null, .null, .null, .int 0] j) := fun j hj => by
  rw [tyX0_ok j hj]
  rcases (show j = 0 ∨ j = 1 ∨ j = 2 ∨ j = 3 ∨ j = 4 by omega) with rfl | rfl | rfl | rfl | rfl <;> rfl
theorem bq_d1 : ∀ j, j < 4 → (parseFieldDescriptor (TX1 j).2.2.1).map defaultValue = some (vp_V [.int 0, .int 0, .int 0, .int 0] j) := fun j hj => by
  rw [tyX1_ok j hj]
  rcases (show j = 0 ∨ j = 1 ∨ j = 2 ∨ j = 3 by omega) with rfl | rfl | rfl | rfl <;> rfl
theorem bq_d2 : ∀ j, j < 5 → (parseFieldDescriptor (TX2 j).2.2.1).map defaultValue = some (vp_V [.null, .null, .null, .null, .int 0] j) := fun j hj => by
  rw [tyX2_ok j hj]
  rcases (show j = 0 ∨ j = 1 ∨ j = 2 ∨ j = 3 ∨ j = 4 by omega) with rfl | rfl | rfl | rfl | rfl <;> rfl
theorem bq_d3 : ∀ j, j < 5 → (parseFieldDescriptor (TX3 j).2.2.1).map defaultValue = some (vp_V [.null, .null, .null, .null, .int 0] j) := fun j hj => by
  rw [tyX3_ok j hj]
  rcases (show j = 0 ∨ j = 1 ∨ j = 2 ∨ j = 3 ∨ j = 4 by omega) with rfl | rfl | rfl | rfl | rfl <;> rfl
theorem bq_d4 : ∀ j, j < 5 → (parseFieldDescriptor (TX4 j).2.2.1).map defaultValue = some (vp_V [.null, .null, .null, .null, .int 0] j) := fun j hj => by
  rw [tyX4_ok j hj]
  rcases (show j = 0 ∨ j = 1 ∨ j = 2 ∨ j = 3 ∨ j = 4 by omega) with rfl | rfl | rfl | rfl | rfl <;> rfl
theorem bq_d5 : ∀ j, j < 6 → (parseFieldDescriptor (TX5 j).2.2.1).map defaultValue = some (vp_V [.null, .null, .null, .null, .null, .int 0] j) := fun j hj => by
  rw [tyX5_ok j hj]
  rcases (show j = 0 ∨ j = 1 ∨ j = 2 ∨ j = 3 ∨ j = 4 ∨ j = 5 by omega) with rfl | rfl | rfl | rfl | rfl | rfl <;> rfl
theorem bq_d6 : ∀ j, j < 2 → (parseFieldDescriptor (TX6 j).2.2.1).map defaultValue = some (vp_V [.null, .int 0] j) := fun j hj => by
  rw [tyX6_ok j hj]
  rcases (show j = 0 ∨ j = 1 by omega) with rfl | rfl <;> rfl
theorem bq_d7 : ∀ j, j < 3 → (parseFieldDescriptor (TX7 j).2.2.1).map defaultValue = some (vp_V [.null, .null, .int 0] j) := fun j hj => by
  rw [tyX7_ok j hj]
  rcases (show j = 0 ∨ j = 1 ∨ j = 2 by omega) with rfl | rfl | rfl <;> rfl
theorem bq_d8 : ∀ j, j < 7 → (parseFieldDescriptor (TX8 j).2.2.1).map defaultValue = some (vp_V [.null, .null, .null, .null, .int 0, .int 0, .int 0] j) := fun j hj => by
  rw [tyX8_ok j hj]
  rcases (show j = 0 ∨ j = 1 ∨ j = 2 ∨ j = 3 ∨ j = 4 ∨ j = 5 ∨ j = 6 by omega) with rfl | rfl | rfl | rfl | rfl | rfl | rfl <;> rfl
theorem bq_d9 : ∀ j, j < 3 → (parseFieldDescriptor (TX9 j).2.2.1).map defaultValue = some (vp_V [.int 0, .int 0, .int 0] j) := fun j hj => by
  rw [tyX9_ok j hj]
  rcases (show j = 0 ∨ j = 1 ∨ j = 2 by omega) with rfl | rfl | rfl <;> rfl
theorem bq_d10 : ∀ j, j < 8 → (parseFieldDescriptor (TX10 j).2.2.1).map defaultValue = some (vp_V [.null, .int 0, .int 0, .int 0, .int 0, .int 0, .int 0, .int 0] j) := fun j hj => by
  rw [tyX10_ok j hj]
  rcases (show j = 0 ∨ j = 1 ∨ j = 2 ∨ j = 3 ∨ j = 4 ∨ j = 5 ∨ j = 6 ∨ j = 7 by omega) with rfl | rfl | rfl | rfl | rfl | rfl | rfl | rfl <;> rfl
theorem bq_d11 : ∀ j, j < 13 → (parseFieldDescriptor (TX11 j).2.2.1).map defaultValue = some (vp_V [.null, .null, .null, .null, .int 0, .null, .int 0, .null, .null, .null, .null, .null, .null] j) := fun j hj => by
  rw [tyX11_ok j hj]
  rcases (show j = 0 ∨ j = 1 ∨ j = 2 ∨ j = 3 ∨ j = 4 ∨ j = 5 ∨ j = 6 ∨ j = 7 ∨ j = 8 ∨ j = 9 ∨ j = 10 ∨ j = 11 ∨ j = 12 by omega) with rfl | rfl | rfl | rfl | rfl | rfl | rfl | rfl | rfl | rfl | rfl | rfl | rfl <;> rfl
theorem bq_c11_29 : Cond.classLink RX11 29 RX1 ∈ am_gT := am_w 256 (by decide +kernel) rfl
theorem bq_c11_36 : Cond.classLink RX11 36 RX3 ∈ am_gT := am_w 258 (by decide +kernel) rfl
theorem bq_c11_43 : Cond.classLink RX11 43 RX10 ∈ am_gT := am_w 283 (by decide +kernel) rfl
theorem bq_c11_50 : Cond.classLink RX11 50 RX9 ∈ am_gT := am_w 321 (by decide +kernel) rfl
theorem bq_c11_57 : Cond.classLink RX11 57 RX8 ∈ am_gT := am_w 337 (by decide +kernel) rfl
theorem bq_c11_64 : Cond.classLink RX11 64 RX6 ∈ am_gT := am_w 362 (by decide +kernel) rfl
theorem bq_c11_9 : Cond.classLink RX11 9 RX5 ∈ am_gT := am_w 71 (by decide +kernel) rfl
theorem bq_c5_18 : Cond.classLink RX5 18 RX4 ∈ am_gT := am_w 105 (by decide +kernel) rfl
theorem bq_c5_25 : Cond.classLink RX5 25 RX2 ∈ am_gT := am_w 141 (by decide +kernel) rfl
theorem bq_c5_32 : Cond.classLink RX5 32 RX1 ∈ am_gT := am_w 170 (by decide +kernel) rfl
theorem bq_c5_39 : Cond.classLink RX5 39 RX7 ∈ am_gT := am_w 196 (by decide +kernel) rfl
theorem bq_c5_9 : Cond.classLink RX5 9 RX0 ∈ am_gT := am_w 77 (by decide +kernel) rfl
theorem bq_o0 : Cond.methodLink RX0 3 objectInit ∈ am_gT := am_w 82 (by decide +kernel) rfl
theorem bq_o1 : Cond.methodLink RX1 3 objectInit ∈ am_gT := am_w 175 (by decide +kernel) rfl
theorem bq_o10 : Cond.methodLink RX10 3 objectInit ∈ am_gT := am_w 288 (by decide +kernel) rfl
theorem bq_o11 : Cond.methodLink RX11 3 objectInit ∈ am_gT := am_w 68 (by decide +kernel) rfl
theorem bq_o2 : Cond.methodLink RX2 3 objectInit ∈ am_gT := am_w 146 (by decide +kernel) rfl
theorem bq_o3 : Cond.methodLink RX3 3 objectInit ∈ am_gT := am_w 263 (by decide +kernel) rfl
theorem bq_o4 : Cond.methodLink RX4 3 objectInit ∈ am_gT := am_w 110 (by decide +kernel) rfl
theorem bq_o5 : Cond.methodLink RX5 3 objectInit ∈ am_gT := am_w 76 (by decide +kernel) rfl
theorem bq_o6 : Cond.methodLink RX6 3 objectInit ∈ am_gT := am_w 367 (by decide +kernel) rfl
theorem bq_o7 : Cond.methodLink RX7 3 objectInit ∈ am_gT := am_w 201 (by decide +kernel) rfl
theorem bq_o8 : Cond.methodLink RX8 5 objectInit ∈ am_gT := am_w 342 (by decide +kernel) rfl
theorem bq_o9 : Cond.methodLink RX9 3 objectInit ∈ am_gT := am_w 326 (by decide +kernel) rfl
theorem bq_v4 : Cond.methodLink RX4 25 yX4_clear ∈ am_gT := am_w 111 (by decide +kernel) rfl
theorem fw_X0_15 : Cond.fieldLink RX0 15 (TX0 1).1 (TX0 1).2.1 (TX0 1).2.2.1 ∈ am_gT := am_w 85 (by decide +kernel) rfl
theorem fw_X0_18 : Cond.fieldLink RX0 18 (TX0 2).1 (TX0 2).2.1 (TX0 2).2.2.1 ∈ am_gT := am_w 86 (by decide +kernel) rfl
theorem fw_X0_21 : Cond.fieldLink RX0 21 (TX0 3).1 (TX0 3).2.1 (TX0 3).2.2.1 ∈ am_gT := am_w 87 (by decide +kernel) rfl
theorem fw_X0_9 : Cond.fieldLink RX0 9 (TX0 0).1 (TX0 0).2.1 (TX0 0).2.2.1 ∈ am_gT := am_w 83 (by decide +kernel) rfl
theorem fw_X10_15 : Cond.fieldLink RX10 15 (TX10 7).1 (TX10 7).2.1 (TX10 7).2.2.1 ∈ am_gT := am_w 302 (by decide +kernel) rfl
theorem fw_X10_9 : Cond.fieldLink RX10 9 (TX10 0).1 (TX10 0).2.1 (TX10 0).2.2.1 ∈ am_gT := am_w 289 (by decide +kernel) rfl
theorem fw_X11_12 : Cond.fieldLink RX11 12 (TX11 0).1 (TX11 0).2.1 (TX11 0).2.2.1 ∈ am_gT := am_w 374 (by decide +kernel) rfl
theorem fw_X11_16 : Cond.fieldLink RX11 16 (TX11 1).1 (TX11 1).2.1 (TX11 1).2.2.1 ∈ am_gT := am_w 375 (by decide +kernel) rfl
theorem fw_X11_19 : Cond.fieldLink RX11 19 (TX11 2).1 (TX11 2).2.1 (TX11 2).2.2.1 ∈ am_gT := am_w 376 (by decide +kernel) rfl
theorem fw_X11_22 : Cond.fieldLink RX11 22 (TX11 3).1 (TX11 3).2.1 (TX11 3).2.2.1 ∈ am_gT := am_w 377 (by decide +kernel) rfl
theorem fw_X11_25 : Cond.fieldLink RX11 25 (TX11 5).1 (TX11 5).2.1 (TX11 5).2.2.1 ∈ am_gT := am_w 378 (by decide +kernel) rfl
theorem fw_X11_32 : Cond.fieldLink RX11 32 (TX11 7).1 (TX11 7).2.1 (TX11 7).2.2.1 ∈ am_gT := am_w 380 (by decide +kernel) rfl
theorem fw_X11_39 : Cond.fieldLink RX11 39 (TX11 8).1 (TX11 8).2.1 (TX11 8).2.2.1 ∈ am_gT := am_w 381 (by decide +kernel) rfl
theorem fw_X11_46 : Cond.fieldLink RX11 46 (TX11 9).1 (TX11 9).2.1 (TX11 9).2.2.1 ∈ am_gT := am_w 382 (by decide +kernel) rfl
theorem fw_X11_53 : Cond.fieldLink RX11 53 (TX11 10).1 (TX11 10).2.1 (TX11 10).2.2.1 ∈ am_gT := am_w 383 (by decide +kernel) rfl
theorem fw_X11_60 : Cond.fieldLink RX11 60 (TX11 11).1 (TX11 11).2.1 (TX11 11).2.2.1 ∈ am_gT := am_w 384 (by decide +kernel) rfl
theorem fw_X11_67 : Cond.fieldLink RX11 67 (TX11 12).1 (TX11 12).2.1 (TX11 12).2.2.1 ∈ am_gT := am_w 385 (by decide +kernel) rfl
theorem fw_X1_11 : Cond.fieldLink RX1 11 (TX1 0).1 (TX1 0).2.1 (TX1 0).2.2.1 ∈ am_gT := am_w 176 (by decide +kernel) rfl
theorem fw_X1_15 : Cond.fieldLink RX1 15 (TX1 1).1 (TX1 1).2.1 (TX1 1).2.2.1 ∈ am_gT := am_w 179 (by decide +kernel) rfl
theorem fw_X2_15 : Cond.fieldLink RX2 15 (TX2 1).1 (TX2 1).2.1 (TX2 1).2.2.1 ∈ am_gT := am_w 148 (by decide +kernel) rfl
theorem fw_X2_18 : Cond.fieldLink RX2 18 (TX2 2).1 (TX2 2).2.1 (TX2 2).2.2.1 ∈ am_gT := am_w 150 (by decide +kernel) rfl
theorem fw_X2_21 : Cond.fieldLink RX2 21 (TX2 3).1 (TX2 3).2.1 (TX2 3).2.2.1 ∈ am_gT := am_w 152 (by decide +kernel) rfl
theorem fw_X2_9 : Cond.fieldLink RX2 9 (TX2 0).1 (TX2 0).2.1 (TX2 0).2.2.1 ∈ am_gT := am_w 147 (by decide +kernel) rfl
theorem fw_X3_15 : Cond.fieldLink RX3 15 (TX3 1).1 (TX3 1).2.1 (TX3 1).2.2.1 ∈ am_gT := am_w 266 (by decide +kernel) rfl
theorem fw_X3_18 : Cond.fieldLink RX3 18 (TX3 2).1 (TX3 2).2.1 (TX3 2).2.2.1 ∈ am_gT := am_w 268 (by decide +kernel) rfl
theorem fw_X3_22 : Cond.fieldLink RX3 22 (TX3 3).1 (TX3 3).2.1 (TX3 3).2.2.1 ∈ am_gT := am_w 269 (by decide +kernel) rfl
theorem fw_X3_25 : Cond.fieldLink RX3 25 (TX3 4).1 (TX3 4).2.1 (TX3 4).2.2.1 ∈ am_gT := am_w 271 (by decide +kernel) rfl
theorem fw_X3_9 : Cond.fieldLink RX3 9 (TX3 0).1 (TX3 0).2.1 (TX3 0).2.2.1 ∈ am_gT := am_w 264 (by decide +kernel) rfl
theorem fw_X4_15 : Cond.fieldLink RX4 15 (TX4 1).1 (TX4 1).2.1 (TX4 1).2.2.1 ∈ am_gT := am_w 117 (by decide +kernel) rfl
theorem fw_X4_19 : Cond.fieldLink RX4 19 (TX4 2).1 (TX4 2).2.1 (TX4 2).2.2.1 ∈ am_gT := am_w 120 (by decide +kernel) rfl
theorem fw_X4_22 : Cond.fieldLink RX4 22 (TX4 3).1 (TX4 3).2.1 (TX4 3).2.2.1 ∈ am_gT := am_w 123 (by decide +kernel) rfl
theorem fw_X4_28 : Cond.fieldLink RX4 28 (TX4 4).1 (TX4 4).2.1 (TX4 4).2.2.1 ∈ am_gT := am_w 125 (by decide +kernel) rfl
theorem fw_X4_9 : Cond.fieldLink RX4 9 (TX4 0).1 (TX4 0).2.1 (TX4 0).2.2.1 ∈ am_gT := am_w 115 (by decide +kernel) rfl
theorem fw_X5_12 : Cond.fieldLink RX5 12 (TX5 0).1 (TX5 0).2.1 (TX5 0).2.2.1 ∈ am_gT := am_w 220 (by decide +kernel) rfl
theorem fw_X5_21 : Cond.fieldLink RX5 21 (TX5 1).1 (TX5 1).2.1 (TX5 1).2.2.1 ∈ am_gT := am_w 224 (by decide +kernel) rfl
theorem fw_X5_28 : Cond.fieldLink RX5 28 (TX5 2).1 (TX5 2).2.1 (TX5 2).2.2.1 ∈ am_gT := am_w 228 (by decide +kernel) rfl
theorem fw_X5_35 : Cond.fieldLink RX5 35 (TX5 3).1 (TX5 3).2.1 (TX5 3).2.2.1 ∈ am_gT := am_w 232 (by decide +kernel) rfl
theorem fw_X5_42 : Cond.fieldLink RX5 42 (TX5 4).1 (TX5 4).2.1 (TX5 4).2.2.1 ∈ am_gT := am_w 235 (by decide +kernel) rfl
theorem fw_X5_46 : Cond.fieldLink RX5 46 (TX5 5).1 (TX5 5).2.1 (TX5 5).2.2.1 ∈ am_gT := am_w 238 (by decide +kernel) rfl
theorem fw_X6_11 : Cond.fieldLink RX6 11 (TX6 0).1 (TX6 0).2.1 (TX6 0).2.2.1 ∈ am_gT := am_w 368 (by decide +kernel) rfl
theorem fw_X7_15 : Cond.fieldLink RX7 15 (TX7 1).1 (TX7 1).2.1 (TX7 1).2.2.1 ∈ am_gT := am_w 206 (by decide +kernel) rfl
theorem fw_X7_9 : Cond.fieldLink RX7 9 (TX7 0).1 (TX7 0).2.1 (TX7 0).2.2.1 ∈ am_gT := am_w 202 (by decide +kernel) rfl
theorem fw_X8_11 : Cond.fieldLink RX8 11 (TX8 0).1 (TX8 0).2.1 (TX8 0).2.2.1 ∈ am_gT := am_w 343 (by decide +kernel) rfl
theorem fw_X8_15 : Cond.fieldLink RX8 15 (TX8 1).1 (TX8 1).2.1 (TX8 1).2.2.1 ∈ am_gT := am_w 344 (by decide +kernel) rfl
theorem fw_X8_18 : Cond.fieldLink RX8 18 (TX8 2).1 (TX8 2).2.1 (TX8 2).2.2.1 ∈ am_gT := am_w 345 (by decide +kernel) rfl
theorem fw_X8_21 : Cond.fieldLink RX8 21 (TX8 3).1 (TX8 3).2.1 (TX8 3).2.2.1 ∈ am_gT := am_w 346 (by decide +kernel) rfl
