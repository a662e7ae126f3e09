/-! words of building -/
theorem bq_oi : Cond.instanceMethod objectInit ∈ am_gT := am_w 164 (by decide +kernel) rfl
theorem bq_oc : Cond.code objectInit ⟨#[0xb1]⟩ 1 none ∈ am_gT := am_w 165 (by decide +kernel) rfl
theorem bq_a_int : Cond.arrayClass .int ∈ am_gT := am_w 201 (by decide +kernel) rfl
theorem bq_a_boolean : Cond.arrayClass .boolean ∈ am_gT := am_w 202 (by decide +kernel) rfl
theorem bq_a_byte : Cond.arrayClass .byte ∈ am_gT := am_w 428 (by decide +kernel) rfl
theorem bq_a_long : Cond.arrayClass .long ∈ am_gT := am_w 1653 (by decide +kernel) rfl
theorem bq_ao : Cond.arrayOver (.object RX5) ∈ lw_tbl := List.mem_of_getElem? (i := 359) (by decide +kernel)
theorem bq_n0 : Cond.instantiable RX0 5 ∈ am_gT := am_w 173 (by decide +kernel) rfl
theorem bq_i0 : Cond.initialized RX0 ∈ am_gT := am_w 135 (by decide +kernel) rfl
theorem bq_y0 : bd_y yX0_init cX0_init 1 := ⟨am_w 176 (by decide +kernel) rfl, am_w 175 (by decide +kernel) rfl, bq_i0, by decide +kernel, by decide +kernel, by decide +kernel⟩
theorem bq_n1 : Cond.instantiable RX1 4 ∈ am_gT := am_w 271 (by decide +kernel) rfl
theorem bq_i1 : Cond.initialized RX1 ∈ am_gT := am_w 138 (by decide +kernel) rfl
theorem bq_y1 : bd_y yX1_init cX1_init 1 := ⟨am_w 274 (by decide +kernel) rfl, am_w 273 (by decide +kernel) rfl, bq_i1, by decide +kernel, by decide +kernel, by decide +kernel⟩
theorem bq_n2 : Cond.instantiable RX2 5 ∈ am_gT := am_w 242 (by decide +kernel) rfl
theorem bq_i2 : Cond.initialized RX2 ∈ am_gT := am_w 137 (by decide +kernel) rfl
theorem bq_y2 : bd_y yX2_init cX2_init 1 := ⟨am_w 245 (by decide +kernel) rfl, am_w 244 (by decide +kernel) rfl, bq_i2, by decide +kernel, by decide +kernel, by decide +kernel⟩
theorem bq_n3 : Cond.instantiable RX3 5 ∈ am_gT := am_w 363 (by decide +kernel) rfl
theorem bq_i3 : Cond.initialized RX3 ∈ am_gT := am_w 140 (by decide +kernel) rfl
theorem bq_y3 : bd_y yX3_init cX3_init 1 := ⟨am_w 366 (by decide +kernel) rfl, am_w 365 (by decide +kernel) rfl, bq_i3, by decide +kernel, by decide +kernel, by decide +kernel⟩
theorem bq_n4 : Cond.instantiable RX4 5 ∈ am_gT := am_w 204 (by decide +kernel) rfl
theorem bq_i4 : Cond.initialized RX4 ∈ am_gT := am_w 136 (by decide +kernel) rfl
theorem bq_y4 : bd_y yX4_init cX4_init 1 := ⟨am_w 207 (by decide +kernel) rfl, am_w 206 (by decide +kernel) rfl, bq_i4, by decide +kernel, by decide +kernel, by decide +kernel⟩
theorem bq_n5 : Cond.instantiable RX5 6 ∈ am_gT := am_w 167 (by decide +kernel) rfl
theorem bq_i5 : Cond.initialized RX5 ∈ am_gT := am_w 134 (by decide +kernel) rfl
theorem bq_y5 : bd_y yX5_init cX5_init 1 := ⟨am_w 170 (by decide +kernel) rfl, am_w 169 (by decide +kernel) rfl, bq_i5, by decide +kernel, by decide +kernel, by decide +kernel⟩
theorem bq_n6 : Cond.instantiable RX6 2 ∈ am_gT := am_w 474 (by decide +kernel) rfl
theorem bq_i6 : Cond.initialized RX6 ∈ am_gT := am_w 144 (by decide +kernel) rfl
theorem bq_y6 : bd_y yX6_init cX6_init 1 := ⟨am_w 477 (by decide +kernel) rfl, am_w 476 (by decide +kernel) rfl, bq_i6, by decide +kernel, by decide +kernel, by decide +kernel⟩
theorem bq_n7 : Cond.instantiable RX7 3 ∈ am_gT := am_w 297 (by decide +kernel) rfl
theorem bq_i7 : Cond.initialized RX7 ∈ am_gT := am_w 139 (by decide +kernel) rfl
theorem bq_y7 : bd_y yX7_init cX7_init 1 := ⟨am_w 300 (by decide +kernel) rfl, am_w 299 (by decide +kernel) rfl, bq_i7, by decide +kernel, by decide +kernel, by decide +kernel⟩
theorem bq_n8 : Cond.instantiable RX8 7 ∈ am_gT := am_w 446 (by decide +kernel) rfl
theorem bq_i8 : Cond.initialized RX8 ∈ am_gT := am_w 143 (by decide +kernel) rfl
theorem bq_y8 : bd_y yX8_init cX8_init 1 := ⟨am_w 449 (by decide +kernel) rfl, am_w 448 (by decide +kernel) rfl, bq_i8, by decide +kernel, by decide +kernel, by decide +kernel⟩
theorem bq_n9 : Cond.instantiable RX9 3 ∈ am_gT := am_w 430 (by decide +kernel) rfl
theorem bq_i9 : Cond.initialized RX9 ∈ am_gT := am_w 142 (by decide +kernel) rfl
theorem bq_y9 : bd_y yX9_init cX9_init 1 := ⟨am_w 433 (by decide +kernel) rfl, am_w 432 (by decide +kernel) rfl, bq_i9, by decide +kernel, by decide +kernel, by decide +kernel⟩
theorem bq_n10 : Cond.instantiable RX10 8 ∈ am_gT := am_w 389 (by decide +kernel) rfl
theorem bq_i10 : Cond.initialized RX10 ∈ am_gT := am_w 141 (by decide +kernel) rfl
theorem bq_y10 : bd_y yX10_init cX10_init 1 := ⟨am_w 392 (by decide +kernel) rfl, am_w 391 (by decide +kernel) rfl, bq_i10, by decide +kernel, by decide +kernel, by decide +kernel⟩
theorem bq_n11 : Cond.instantiable RX11 13 ∈ am_gT := am_w 159 (by decide +kernel) rfl
theorem bq_i11 : Cond.initialized RX11 ∈ am_gT := am_w 133 (by decide +kernel) rfl
theorem bq_y11 : bd_y yX11_init cX11_init 2 := ⟨am_w 162 (by decide +kernel) rfl, am_w 161 (by decide +kernel) rfl, bq_i11, by decide +kernel, by decide +kernel, by decide +kernel⟩
theorem bq_n12 : Cond.instantiable RX12 37 ∈ am_gT := am_w 1532 (by decide +kernel) rfl
theorem bq_i12 : Cond.initialized RX12 ∈ am_gT := am_w 145 (by decide +kernel) rfl
theorem bq_y12 : bd_y yX12_init cX12_init 1 := ⟨am_w 1535 (by decide +kernel) rfl, am_w 1534 (by decide +kernel) rfl, bq_i12, by decide +kernel, by decide +kernel, by decide +kernel⟩
theorem bq_z4 : bd_y yX4_clear cX4_clear 2 := ⟨am_w 212 (by decide +kernel) rfl, am_w 210 (by decide +kernel) rfl, bq_i4, by decide +kernel, by decide +kernel, by decide +kernel⟩
theorem bq_s4 : Cond.selects RX4 yX4_clear yX4_clear ∈ am_gT := am_w 211 (by decide +kernel) rfl
theorem bq_z12 : bd_y yX12_clears cX12_clears 2 := ⟨am_w 1540 (by decide +kernel) rfl, am_w 1539 (by decide +kernel) rfl, bq_i12, by decide +kernel, by decide +kernel, by decide +kernel⟩
theorem bq_s12 : Cond.selects RX12 yX12_clears yX12_clears ∈ am_gT := am_w 29 (by decide +kernel) rfl
theorem bq_d0 : ∀ j, j < 5 → (parseFieldDescriptor (TX0 j).2.2.1).map defaultValue = some (vp_V [.null, .null, .null, .null, .int 0] j) := fun j hj => by
  rw [tyX0_ok j hj]
  rcases (show j = 0 ∨ j = 1 ∨ j = 2 ∨ j = 3 ∨ j = 4 by omega) with rfl | rfl | rfl | rfl | rfl <;> rfl
theorem bq_d1 : ∀ j, j < 4 → (parseFieldDescriptor (TX1 j).2.2.1).map defaultValue = some (vp_V [.int 0, .int 0, .int 0, .int 0] j) := fun j hj => by
  rw [tyX1_ok j hj]
  rcases (show j = 0 ∨ j = 1 ∨ j = 2 ∨ j = 3 by omega) with rfl | rfl | rfl | rfl <;> rfl
theorem bq_d2 : ∀ j, j < 5 → (parseFieldDescriptor (TX2 j).2.2.1).map defaultValue = some (vp_V [.null, .null, .null, .null, .int 0] j) := fun j hj => by
  rw [tyX2_ok j hj]
  rcases (show j = 0 ∨ j = 1 ∨ j = 2 ∨ j = 3 ∨ j = 4 by omega) with rfl | rfl | rfl | rfl | rfl <;> rfl
theorem bq_d3 : ∀ j, j < 5 → (parseFieldDescriptor (TX3 j).2.2.1).map defaultValue = some (vp_V [.null, .null, .null, .null, .int 0] j) := fun j hj => by
  rw [tyX3_ok j hj]
  rcases (show j = 0 ∨ j = 1 ∨ j = 2 ∨ j = 3 ∨ j = 4 by omega) with rfl | rfl | rfl | rfl | rfl <;> rfl
theorem bq_d4 : ∀ j, j < 5 → (parseFieldDescriptor (TX4 j).2.2.1).map defaultValue = some (vp_V [.null, .null, .null, .null, .int 0] j) := fun j hj => by
  rw [tyX4_ok j hj]
  rcases (show j = 0 ∨ j = 1 ∨ j = 2 ∨ j = 3 ∨ j = 4 by omega) with rfl | rfl | rfl | rfl | rfl <;> rfl
theorem bq_d5 : ∀ j, j < 6 → (parseFieldDescriptor (TX5 j).2.2.1).map defaultValue = some (vp_V [.null, .null, .null, .null, .null, .int 0] j) := fun j hj => by
  rw [tyX5_ok j hj]
  rcases (show j = 0 ∨ j = 1 ∨ j = 2 ∨ j = 3 ∨ j = 4 ∨ j = 5 by omega) with rfl | rfl | rfl | rfl | rfl | rfl <;> rfl
theorem bq_d6 : ∀ j, j < 2 → (parseFieldDescriptor (TX6 j).2.2.1).map defaultValue = some (vp_V [.null, .int 0] j) := fun j hj => by
  rw [tyX6_ok j hj]
  rcases (show j = 0 ∨ j = 1 by omega) with rfl | rfl <;> rfl
theorem bq_d7 : ∀ j, j < 3 → (parseFieldDescriptor (TX7 j).2.2.1).map defaultValue = some (vp_V [.null, .null, .int 0] j) := fun j hj => by
  rw [tyX7_ok j hj]
  rcases (show j = 0 ∨ j = 1 ∨ j = 2 by omega) with rfl | rfl | rfl <;> rfl
theorem bq_d8 : ∀ j, j < 7 → (parseFieldDescriptor (TX8 j).2.2.1).map defaultValue = some (vp_V [.null, .null, .null, .null, .int 0, .int 0, .int 0] j) := fun j hj => by
  rw [tyX8_ok j hj]
  rcases (show j = 0 ∨ j = 1 ∨ j = 2 ∨ j = 3 ∨ j = 4 ∨ j = 5 ∨ j = 6 by omega) with rfl | rfl | rfl | rfl | rfl | rfl | rfl <;> rfl
theorem bq_d9 : ∀ j, j < 3 → (parseFieldDescriptor (TX9 j).2.2.1).map defaultValue = some (vp_V [.int 0, .int 0, .int 0] j) := fun j hj => by
  rw [tyX9_ok j hj]
  rcases (show j = 0 ∨ j = 1 ∨ j = 2 by omega) with rfl | rfl | rfl <;> rfl
theorem bq_d10 : ∀ j, j < 8 → (parseFieldDescriptor (TX10 j).2.2.1).map defaultValue = some (vp_V [.null, .int 0, .int 0, .int 0, .int 0, .int 0, .int 0, .int 0] j) := fun j hj => by
  rw [tyX10_ok j hj]
  rcases (show j = 0 ∨ j = 1 ∨ j = 2 ∨ j = 3 ∨ j = 4 ∨ j = 5 ∨ j = 6 ∨ j = 7 by omega) with rfl | rfl | rfl | rfl | rfl | rfl | rfl | rfl <;> rfl
theorem bq_d11 : ∀ j, j < 13 → (parseFieldDescriptor (TX11 j).2.2.1).map defaultValue = some (vp_V [.null, .null, .null, .null, .int 0, .null, .int 0, .null, .null, .null, .null, .null, .null] j) := fun j hj => by
  rw [tyX11_ok j hj]
  rcases (show j = 0 ∨ j = 1 ∨ j = 2 ∨ j = 3 ∨ j = 4 ∨ j = 5 ∨ j = 6 ∨ j = 7 ∨ j = 8 ∨ j = 9 ∨ j = 10 ∨ j = 11 ∨ j = 12 by omega) with rfl | rfl | rfl | rfl | rfl | rfl | rfl | rfl | rfl | rfl | rfl | rfl | rfl <;> rfl
theorem bq_d12 : ∀ j, j < 37 → (parseFieldDescriptor (TX12 j).2.2.1).map defaultValue = some (vp_V [.int 0, .null, .int 0, .int 0, .int 0, .int 0, .int 0, .int 0, .int 0, .int 0, .int 0, .int 0, .long 0, .null, .null, .null, .null, .null, .null, .null, .null, .int 0, .int 0, .int 0, .null, .null, .null, .null, .null, .null, .null, .int 0, .int 0, .int 0, .null, .int 0, .int 0] j) := fun j hj => by
  rw [tyX12_ok j hj]
  rcases (show j = 0 ∨ j = 1 ∨ j = 2 ∨ j = 3 ∨ j = 4 ∨ j = 5 ∨ j = 6 ∨ j = 7 ∨ j = 8 ∨ j = 9 ∨ j = 10 ∨ j = 11 ∨ j = 12 ∨ j = 13 ∨ j = 14 ∨ j = 15 ∨ j = 16 ∨ j = 17 ∨ j = 18 ∨ j = 19 ∨ j = 20 ∨ j = 21 ∨ j = 22 ∨ j = 23 ∨ j = 24 ∨ j = 25 ∨ j = 26 ∨ j = 27 ∨ j = 28 ∨ j = 29 ∨ j = 30 ∨ j = 31 ∨ j = 32 ∨ j = 33 ∨ j = 34 ∨ j = 35 ∨ j = 36 by omega) with rfl | rfl | rfl | rfl | rfl | rfl | rfl | rfl | rfl | rfl | rfl | rfl | rfl | rfl | rfl | rfl | rfl | rfl | rfl | rfl | rfl | rfl | rfl | rfl | rfl | rfl | rfl | rfl | rfl | rfl | rfl | rfl | rfl | rfl | rfl | rfl | rfl <;> rfl
theorem bq_c11_29 : Cond.classLink RX11 29 RX1 ∈ am_gT := am_w 360 (by decide +kernel) rfl
theorem bq_c11_36 : Cond.classLink RX11 36 RX3 ∈ am_gT := am_w 362 (by decide +kernel) rfl
theorem bq_c11_43 : Cond.classLink RX11 43 RX10 ∈ am_gT := am_w 388 (by decide +kernel) rfl
theorem bq_c11_50 : Cond.classLink RX11 50 RX9 ∈ am_gT := am_w 429 (by decide +kernel) rfl
theorem bq_c11_57 : Cond.classLink RX11 57 RX8 ∈ am_gT := am_w 445 (by decide +kernel) rfl
theorem bq_c11_64 : Cond.classLink RX11 64 RX6 ∈ am_gT := am_w 473 (by decide +kernel) rfl
theorem bq_c11_9 : Cond.classLink RX11 9 RX5 ∈ am_gT := am_w 166 (by decide +kernel) rfl
theorem bq_c5_18 : Cond.classLink RX5 18 RX4 ∈ am_gT := am_w 203 (by decide +kernel) rfl
theorem bq_c5_25 : Cond.classLink RX5 25 RX2 ∈ am_gT := am_w 241 (by decide +kernel) rfl
theorem bq_c5_32 : Cond.classLink RX5 32 RX1 ∈ am_gT := am_w 270 (by decide +kernel) rfl
theorem bq_c5_39 : Cond.classLink RX5 39 RX7 ∈ am_gT := am_w 296 (by decide +kernel) rfl
theorem bq_c5_9 : Cond.classLink RX5 9 RX0 ∈ am_gT := am_w 172 (by decide +kernel) rfl
theorem bq_o0 : Cond.methodLink RX0 3 objectInit ∈ am_gT := am_w 177 (by decide +kernel) rfl
theorem bq_o1 : Cond.methodLink RX1 3 objectInit ∈ am_gT := am_w 275 (by decide +kernel) rfl
theorem bq_o10 : Cond.methodLink RX10 3 objectInit ∈ am_gT := am_w 393 (by decide +kernel) rfl
theorem bq_o11 : Cond.methodLink RX11 3 objectInit ∈ am_gT := am_w 163 (by decide +kernel) rfl
theorem bq_o12 : Cond.methodLink RX12 1 objectInit ∈ am_gT := am_w 1536 (by decide +kernel) rfl
theorem bq_o2 : Cond.methodLink RX2 3 objectInit ∈ am_gT := am_w 246 (by decide +kernel) rfl
theorem bq_o3 : Cond.methodLink RX3 3 objectInit ∈ am_gT := am_w 367 (by decide +kernel) rfl
theorem bq_o4 : Cond.methodLink RX4 3 objectInit ∈ am_gT := am_w 208 (by decide +kernel) rfl
theorem bq_o5 : Cond.methodLink RX5 3 objectInit ∈ am_gT := am_w 171 (by decide +kernel) rfl
theorem bq_o6 : Cond.methodLink RX6 3 objectInit ∈ am_gT := am_w 478 (by decide +kernel) rfl
theorem bq_o7 : Cond.methodLink RX7 3 objectInit ∈ am_gT := am_w 301 (by decide +kernel) rfl
theorem bq_o8 : Cond.methodLink RX8 5 objectInit ∈ am_gT := am_w 450 (by decide +kernel) rfl
theorem bq_o9 : Cond.methodLink RX9 3 objectInit ∈ am_gT := am_w 434 (by decide +kernel) rfl
theorem bq_v12 : Cond.methodLink RX12 69 yX12_clears ∈ am_gT := am_w 1537 (by decide +kernel) rfl
theorem bq_v4 : Cond.methodLink RX4 25 yX4_clear ∈ am_gT := am_w 209 (by decide +kernel) rfl
theorem fw_X0_15 : Cond.fieldLink RX0 15 (TX0 1).1 (TX0 1).2.1 (TX0 1).2.2.1 ∈ am_gT := am_w 180 (by decide +kernel) rfl
theorem fw_X0_18 : Cond.fieldLink RX0 18 (TX0 2).1 (TX0 2).2.1 (TX0 2).2.2.1 ∈ am_gT := am_w 182 (by decide +kernel) rfl
theorem fw_X0_21 : Cond.fieldLink RX0 21 (TX0 3).1 (TX0 3).2.1 (TX0 3).2.2.1 ∈ am_gT := am_w 184 (by decide +kernel) rfl
theorem fw_X0_9 : Cond.fieldLink RX0 9 (TX0 0).1 (TX0 0).2.1 (TX0 0).2.2.1 ∈ am_gT := am_w 178 (by decide +kernel) rfl
theorem fw_X10_15 : Cond.fieldLink RX10 15 (TX10 7).1 (TX10 7).2.1 (TX10 7).2.2.1 ∈ am_gT := am_w 409 (by decide +kernel) rfl
theorem fw_X10_9 : Cond.fieldLink RX10 9 (TX10 0).1 (TX10 0).2.1 (TX10 0).2.2.1 ∈ am_gT := am_w 394 (by decide +kernel) rfl
theorem fw_X11_12 : Cond.fieldLink RX11 12 (TX11 0).1 (TX11 0).2.1 (TX11 0).2.2.1 ∈ am_gT := am_w 488 (by decide +kernel) rfl
theorem fw_X11_16 : Cond.fieldLink RX11 16 (TX11 1).1 (TX11 1).2.1 (TX11 1).2.2.1 ∈ am_gT := am_w 489 (by decide +kernel) rfl
theorem fw_X11_19 : Cond.fieldLink RX11 19 (TX11 2).1 (TX11 2).2.1 (TX11 2).2.2.1 ∈ am_gT := am_w 490 (by decide +kernel) rfl
theorem fw_X11_22 : Cond.fieldLink RX11 22 (TX11 3).1 (TX11 3).2.1 (TX11 3).2.2.1 ∈ am_gT := am_w 491 (by decide +kernel) rfl
theorem fw_X11_25 : Cond.fieldLink RX11 25 (TX11 5).1 (TX11 5).2.1 (TX11 5).2.2.1 ∈ am_gT := am_w 493 (by decide +kernel) rfl
theorem fw_X11_32 : Cond.fieldLink RX11 32 (TX11 7).1 (TX11 7).2.1 (TX11 7).2.2.1 ∈ am_gT := am_w 495 (by decide +kernel) rfl
theorem fw_X11_39 : Cond.fieldLink RX11 39 (TX11 8).1 (TX11 8).2.1 (TX11 8).2.2.1 ∈ am_gT := am_w 496 (by decide +kernel) rfl
theorem fw_X11_46 : Cond.fieldLink RX11 46 (TX11 9).1 (TX11 9).2.1 (TX11 9).2.2.1 ∈ am_gT := am_w 497 (by decide +kernel) rfl
theorem fw_X11_53 : Cond.fieldLink RX11 53 (TX11 10).1 (TX11 10).2.1 (TX11 10).2.2.1 ∈ am_gT := am_w 498 (by decide +kernel) rfl
theorem fw_X11_60 : Cond.fieldLink RX11 60 (TX11 11).1 (TX11 11).2.1 (TX11 11).2.2.1 ∈ am_gT := am_w 499 (by decide +kernel) rfl
theorem fw_X11_67 : Cond.fieldLink RX11 67 (TX11 12).1 (TX11 12).2.1 (TX11 12).2.2.1 ∈ am_gT := am_w 500 (by decide +kernel) rfl
theorem fw_X12_13 : Cond.fieldLink RX12 13 (TX12 9).1 (TX12 9).2.1 (TX12 9).2.2.1 ∈ am_gT := am_w 1550 (by decide +kernel) rfl
theorem fw_X12_17 : Cond.fieldLink RX12 17 (TX12 11).1 (TX12 11).2.1 (TX12 11).2.2.1 ∈ am_gT := am_w 1552 (by decide +kernel) rfl
theorem fw_X12_20 : Cond.fieldLink RX12 20 (TX12 13).1 (TX12 13).2.1 (TX12 13).2.2.1 ∈ am_gT := am_w 1554 (by decide +kernel) rfl
theorem fw_X12_23 : Cond.fieldLink RX12 23 (TX12 14).1 (TX12 14).2.1 (TX12 14).2.2.1 ∈ am_gT := am_w 1555 (by decide +kernel) rfl
theorem fw_X12_26 : Cond.fieldLink RX12 26 (TX12 15).1 (TX12 15).2.1 (TX12 15).2.2.1 ∈ am_gT := am_w 1556 (by decide +kernel) rfl
theorem fw_X12_29 : Cond.fieldLink RX12 29 (TX12 16).1 (TX12 16).2.1 (TX12 16).2.2.1 ∈ am_gT := am_w 1557 (by decide +kernel) rfl
theorem fw_X12_32 : Cond.fieldLink RX12 32 (TX12 17).1 (TX12 17).2.1 (TX12 17).2.2.1 ∈ am_gT := am_w 1558 (by decide +kernel) rfl
theorem fw_X12_35 : Cond.fieldLink RX12 35 (TX12 18).1 (TX12 18).2.1 (TX12 18).2.2.1 ∈ am_gT := am_w 1559 (by decide +kernel) rfl
theorem fw_X12_39 : Cond.fieldLink RX12 39 (TX12 19).1 (TX12 19).2.1 (TX12 19).2.2.1 ∈ am_gT := am_w 1560 (by decide +kernel) rfl
theorem fw_X12_42 : Cond.fieldLink RX12 42 (TX12 20).1 (TX12 20).2.1 (TX12 20).2.2.1 ∈ am_gT := am_w 1561 (by decide +kernel) rfl
theorem fw_X12_45 : Cond.fieldLink RX12 45 (TX12 24).1 (TX12 24).2.1 (TX12 24).2.2.1 ∈ am_gT := am_w 1565 (by decide +kernel) rfl
theorem fw_X12_48 : Cond.fieldLink RX12 48 (TX12 25).1 (TX12 25).2.1 (TX12 25).2.2.1 ∈ am_gT := am_w 1566 (by decide +kernel) rfl
theorem fw_X12_51 : Cond.fieldLink RX12 51 (TX12 26).1 (TX12 26).2.1 (TX12 26).2.2.1 ∈ am_gT := am_w 1567 (by decide +kernel) rfl
theorem fw_X12_54 : Cond.fieldLink RX12 54 (TX12 27).1 (TX12 27).2.1 (TX12 27).2.2.1 ∈ am_gT := am_w 1568 (by decide +kernel) rfl
theorem fw_X12_57 : Cond.fieldLink RX12 57 (TX12 28).1 (TX12 28).2.1 (TX12 28).2.2.1 ∈ am_gT := am_w 1569 (by decide +kernel) rfl
theorem fw_X12_60 : Cond.fieldLink RX12 60 (TX12 29).1 (TX12 29).2.1 (TX12 29).2.2.1 ∈ am_gT := am_w 1570 (by decide +kernel) rfl
theorem fw_X12_63 : Cond.fieldLink RX12 63 (TX12 30).1 (TX12 30).2.1 (TX12 30).2.2.1 ∈ am_gT := am_w 1571 (by decide +kernel) rfl
theorem fw_X12_66 : Cond.fieldLink RX12 66 (TX12 34).1 (TX12 34).2.1 (TX12 34).2.2.1 ∈ am_gT := am_w 1575 (by decide +kernel) rfl
theorem fw_X12_7 : Cond.fieldLink RX12 7 (TX12 1).1 (TX12 1).2.1 (TX12 1).2.2.1 ∈ am_gT := am_w 1542 (by decide +kernel) rfl
theorem fw_X1_11 : Cond.fieldLink RX1 11 (TX1 0).1 (TX1 0).2.1 (TX1 0).2.2.1 ∈ am_gT := am_w 276 (by decide +kernel) rfl
theorem fw_X1_15 : Cond.fieldLink RX1 15 (TX1 1).1 (TX1 1).2.1 (TX1 1).2.2.1 ∈ am_gT := am_w 279 (by decide +kernel) rfl
theorem fw_X2_15 : Cond.fieldLink RX2 15 (TX2 1).1 (TX2 1).2.1 (TX2 1).2.2.1 ∈ am_gT := am_w 248 (by decide +kernel) rfl
theorem fw_X2_18 : Cond.fieldLink RX2 18 (TX2 2).1 (TX2 2).2.1 (TX2 2).2.2.1 ∈ am_gT := am_w 250 (by decide +kernel) rfl
theorem fw_X2_21 : Cond.fieldLink RX2 21 (TX2 3).1 (TX2 3).2.1 (TX2 3).2.2.1 ∈ am_gT := am_w 252 (by decide +kernel) rfl
theorem fw_X2_9 : Cond.fieldLink RX2 9 (TX2 0).1 (TX2 0).2.1 (TX2 0).2.2.1 ∈ am_gT := am_w 247 (by decide +kernel) rfl
theorem fw_X3_15 : Cond.fieldLink RX3 15 (TX3 1).1 (TX3 1).2.1 (TX3 1).2.2.1 ∈ am_gT := am_w 370 (by decide +kernel) rfl
theorem fw_X3_18 : Cond.fieldLink RX3 18 (TX3 2).1 (TX3 2).2.1 (TX3 2).2.2.1 ∈ am_gT := am_w 372 (by decide +kernel) rfl
theorem fw_X3_22 : Cond.fieldLink RX3 22 (TX3 3).1 (TX3 3).2.1 (TX3 3).2.2.1 ∈ am_gT := am_w 373 (by decide +kernel) rfl
theorem fw_X3_25 : Cond.fieldLink RX3 25 (TX3 4).1 (TX3 4).2.1 (TX3 4).2.2.1 ∈ am_gT := am_w 375 (by decide +kernel) rfl
theorem fw_X3_9 : Cond.fieldLink RX3 9 (TX3 0).1 (TX3 0).2.1 (TX3 0).2.2.1 ∈ am_gT := am_w 368 (by decide +kernel) rfl
theorem fw_X4_15 : Cond.fieldLink RX4 15 (TX4 1).1 (TX4 1).2.1 (TX4 1).2.2.1 ∈ am_gT := am_w 216 (by decide +kernel) rfl
theorem fw_X4_19 : Cond.fieldLink RX4 19 (TX4 2).1 (TX4 2).2.1 (TX4 2).2.2.1 ∈ am_gT := am_w 220 (by decide +kernel) rfl
theorem fw_X4_22 : Cond.fieldLink RX4 22 (TX4 3).1 (TX4 3).2.1 (TX4 3).2.2.1 ∈ am_gT := am_w 223 (by decide +kernel) rfl
theorem fw_X4_28 : Cond.fieldLink RX4 28 (TX4 4).1 (TX4 4).2.1 (TX4 4).2.2.1 ∈ am_gT := am_w 225 (by decide +kernel) rfl
theorem fw_X4_9 : Cond.fieldLink RX4 9 (TX4 0).1 (TX4 0).2.1 (TX4 0).2.2.1 ∈ am_gT := am_w 213 (by decide +kernel) rfl
theorem fw_X5_12 : Cond.fieldLink RX5 12 (TX5 0).1 (TX5 0).2.1 (TX5 0).2.2.1 ∈ am_gT := am_w 320 (by decide +kernel) rfl
theorem fw_X5_21 : Cond.fieldLink RX5 21 (TX5 1).1 (TX5 1).2.1 (TX5 1).2.2.1 ∈ am_gT := am_w 324 (by decide +kernel) rfl
theorem fw_X5_28 : Cond.fieldLink RX5 28 (TX5 2).1 (TX5 2).2.1 (TX5 2).2.2.1 ∈ am_gT := am_w 329 (by decide +kernel) rfl
theorem fw_X5_35 : Cond.fieldLink RX5 35 (TX5 3).1 (TX5 3).2.1 (TX5 3).2.2.1 ∈ am_gT := am_w 333 (by decide +kernel) rfl
theorem fw_X5_42 : Cond.fieldLink RX5 42 (TX5 4).1 (TX5 4).2.1 (TX5 4).2.2.1 ∈ am_gT := am_w 337 (by decide +kernel) rfl
theorem fw_X5_46 : Cond.fieldLink RX5 46 (TX5 5).1 (TX5 5).2.1 (TX5 5).2.2.1 ∈ am_gT := am_w 341 (by decide +kernel) rfl
theorem fw_X6_11 : Cond.fieldLink RX6 11 (TX6 0).1 (TX6 0).2.1 (TX6 0).2.2.1 ∈ am_gT := am_w 479 (by decide +kernel) rfl
theorem fw_X7_15 : Cond.fieldLink RX7 15 (TX7 1).1 (TX7 1).2.1 (TX7 1).2.2.1 ∈ am_gT := am_w 306 (by decide +kernel) rfl
theorem fw_X7_9 : Cond.fieldLink RX7 9 (TX7 0).1 (TX7 0).2.1 (TX7 0).2.2.1 ∈ am_gT := am_w 302 (by decide +kernel) rfl
theorem fw_X8_11 : Cond.fieldLink RX8 11 (TX8 0).1 (TX8 0).2.1 (TX8 0).2.2.1 ∈ am_gT := am_w 451 (by decide +kernel) rfl
theorem fw_X8_15 : Cond.fieldLink RX8 15 (TX8 1).1 (TX8 1).2.1 (TX8 1).2.2.1 ∈ am_gT := am_w 452 (by decide +kernel) rfl
theorem fw_X8_18 : Cond.fieldLink RX8 18 (TX8 2).1 (TX8 2).2.1 (TX8 2).2.2.1 ∈ am_gT := am_w 453 (by decide +kernel) rfl
theorem fw_X8_21 : Cond.fieldLink RX8 21 (TX8 3).1 (TX8 3).2.1 (TX8 3).2.2.1 ∈ am_gT := am_w 454 (by decide +kernel) rfl
