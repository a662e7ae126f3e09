/-! words that the functions of the second machine ask for; a few methods by hand -/
theorem fs_J0_38 : Cond.fieldLink RJ0 38 "java/lang/String" "COMPACT_STRINGS" "Z" ∈ am_gT := by decide +kernel
theorem fs_J5_18 : Cond.fieldLink RJ5 18 "java/lang/String" "COMPACT_STRINGS" "Z" ∈ am_gT := by decide +kernel
theorem fs_Jx4a65c_39 : Cond.fieldLink RJx4a65c 39 "java/util/ArrayList" "DEFAULTCAPACITY_EMPTY_ELEMENTDATA" "[Ljava/lang/Object;" ∈ am_gT := by decide +kernel
theorem fs_J6_83 : Cond.fieldLink RJ6 83 "java/lang/Integer" "DigitOnes" "[B" ∈ am_gT := by decide +kernel
theorem fs_J6_87 : Cond.fieldLink RJ6 87 "java/lang/Integer" "DigitTens" "[B" ∈ am_gT := by decide +kernel
theorem fs_J0_1053 : Cond.fieldLink RJ0 1053 "jdk/internal/util/Preconditions" "SIOOBE_FORMATTER" "Ljava/util/function/BiFunction;" ∈ am_gT := by decide +kernel
theorem fs_Jx4a65c_63 : Cond.fieldLink RJx4a65c 63 "java/util/ArrayList" "modCount" "I" ∈ am_gT := by decide +kernel
theorem fs_Jx35411_17 : Cond.fieldLink RJx35411 17 "java/util/ArrayList" "modCount" "I" ∈ am_gT := by decide +kernel
theorem fs_mod : Cond.sameField "java/util/ArrayList" "java/util/AbstractList" "modCount" "I" ∈ am_gT := by decide +kernel
theorem fs_J0_9 : Cond.fieldLink RJ0 9 (TJ0 0).1 (TJ0 0).2.1 (TJ0 0).2.2.1 ∈ am_gT := by decide +kernel
theorem fs_J0_15 : Cond.fieldLink RJ0 15 (TJ0 1).1 (TJ0 1).2.1 (TJ0 1).2.2.1 ∈ am_gT := by decide +kernel
theorem pf_B : parseFieldDescriptor "[B" = some (.array .byte) := by decide +kernel
theorem pf_b : parseFieldDescriptor "B" = some .byte := by decide +kernel
theorem pf_A : parseFieldDescriptor "Ljava/util/ArrayList;" = some (.object "java/util/ArrayList") := by decide +kernel
theorem fs_Jx35411_1 : Cond.fieldLink RJx35411 1 (TJx35411 3).1 (TJx35411 3).2.1 (TJx35411 3).2.2.1 ∈ am_gT := by decide +kernel
theorem nw_X12_8 : Cond.classLink RX12 8 RX12 ∈ am_gT ∧ Cond.instantiable RX12 11 ∈ am_gT ∧ Cond.initialized RX12 ∈ am_gT := by decide +kernel
theorem nw_X12_23 : Cond.classLink RX12 23 RJx4a65c ∈ am_gT ∧ Cond.instantiable RJx4a65c 3 ∈ am_gT ∧ Cond.initialized RJx4a65c ∈ am_gT := by decide +kernel
theorem nw_X12_46 : Cond.classLink RX12 46 RJ4 ∈ am_gT ∧ Cond.instantiable RJ4 4 ∈ am_gT ∧ Cond.initialized RJ4 ∈ am_gT := by decide +kernel
theorem nw_J4_18 : Cond.classLink RJ4 18 RJ0 ∈ am_gT ∧ Cond.instantiable RJ0 4 ∈ am_gT ∧ Cond.initialized RJ0 ∈ am_gT := by decide +kernel
theorem nw_Jx4a65c_267 : Cond.classLink RJx4a65c 267 RJx35411 ∈ am_gT ∧ Cond.instantiable RJx35411 4 ∈ am_gT ∧ Cond.initialized RJx35411 ∈ am_gT := by decide +kernel
theorem nf_12 : ∀ j, j < 11 → ∃ ty, parseFieldDescriptor (TX12 j).2.2.1 = some ty ∧ ∃ v, (dm_f0 12)[j]? = some v ∧ ∀ ad, am_enc ad v = defaultValue ty := fun j hj => by
  match j, hj with
  | 0, h => exact ⟨_, tyX12_ok 0 h, _, rfl, fun _ => rfl⟩
  | 1, h => exact ⟨_, tyX12_ok 1 h, _, rfl, fun _ => rfl⟩
  | 2, h => exact ⟨_, tyX12_ok 2 h, _, rfl, fun _ => rfl⟩
  | 3, h => exact ⟨_, tyX12_ok 3 h, _, rfl, fun _ => rfl⟩
  | 4, h => exact ⟨_, tyX12_ok 4 h, _, rfl, fun _ => rfl⟩
  | 5, h => exact ⟨_, tyX12_ok 5 h, _, rfl, fun _ => rfl⟩
  | 6, h => exact ⟨_, tyX12_ok 6 h, _, rfl, fun _ => rfl⟩
  | 7, h => exact ⟨_, tyX12_ok 7 h, _, rfl, fun _ => rfl⟩
  | 8, h => exact ⟨_, tyX12_ok 8 h, _, rfl, fun _ => rfl⟩
  | 9, h => exact ⟨_, tyX12_ok 9 h, _, rfl, fun _ => rfl⟩
  | 10, h => exact ⟨_, tyX12_ok 10 h, _, rfl, fun _ => rfl⟩
theorem nf_13 : ∀ j, j < 4 → ∃ ty, parseFieldDescriptor (TJ0 j).2.2.1 = some ty ∧ ∃ v, (dm_f0 13)[j]? = some v ∧ ∀ ad, am_enc ad v = defaultValue ty := fun j hj => by
  match j, hj with
  | 0, h => exact ⟨_, tyJ0_ok 0 h, _, rfl, fun _ => rfl⟩
  | 1, h => exact ⟨_, tyJ0_ok 1 h, _, rfl, fun _ => rfl⟩
  | 2, h => exact ⟨_, tyJ0_ok 2 h, _, rfl, fun _ => rfl⟩
  | 3, h => exact ⟨_, tyJ0_ok 3 h, _, rfl, fun _ => rfl⟩
theorem nf_14 : ∀ j, j < 4 → ∃ ty, parseFieldDescriptor (TJ4 j).2.2.1 = some ty ∧ ∃ v, (dm_f0 14)[j]? = some v ∧ ∀ ad, am_enc ad v = defaultValue ty := fun j hj => by
  match j, hj with
  | 0, h => exact ⟨_, tyJ4_ok 0 h, _, rfl, fun _ => rfl⟩
  | 1, h => exact ⟨_, tyJ4_ok 1 h, _, rfl, fun _ => rfl⟩
  | 2, h => exact ⟨_, tyJ4_ok 2 h, _, rfl, fun _ => rfl⟩
  | 3, h => exact ⟨_, tyJ4_ok 3 h, _, rfl, fun _ => rfl⟩
theorem nf_15 : ∀ j, j < 4 → ∃ ty, parseFieldDescriptor (TJx35411 j).2.2.1 = some ty ∧ ∃ v, (dm_f0 15)[j]? = some v ∧ ∀ ad, am_enc ad v = defaultValue ty := fun j hj => by
  match j, hj with
  | 0, h => exact ⟨_, tyJx35411_ok 0 h, _, rfl, fun _ => rfl⟩
  | 1, h => exact ⟨_, tyJx35411_ok 1 h, _, rfl, fun _ => rfl⟩
  | 2, h => exact ⟨_, tyJx35411_ok 2 h, _, rfl, fun _ => rfl⟩
  | 3, h => exact ⟨_, tyJx35411_ok 3 h, _, rfl, fun _ => rfl⟩
theorem nf_16 : ∀ j, j < 3 → ∃ ty, parseFieldDescriptor (TJx4a65c j).2.2.1 = some ty ∧ ∃ v, (dm_f0 16)[j]? = some v ∧ ∀ ad, am_enc ad v = defaultValue ty := fun j hj => by
  match j, hj with
  | 0, h => exact ⟨_, tyJx4a65c_ok 0 h, _, rfl, fun _ => rfl⟩
  | 1, h => exact ⟨_, tyJx4a65c_ok 1 h, _, rfl, fun _ => rfl⟩
  | 2, h => exact ⟨_, tyJx4a65c_ok 2 h, _, rfl, fun _ => rfl⟩
theorem na_int : Cond.arrayClass (newarray.typeOf .int) ∈ am_gT := by decide +kernel
theorem na_byte : Cond.arrayClass (newarray.typeOf .byte) ∈ am_gT := by decide +kernel
theorem an_Jx4a65c_7 : Cond.classLink RJx4a65c 7 "java/lang/Object" ∈ am_gT := by decide +kernel
theorem an_J7_2 : Cond.classLink RJ7 2 "java/lang/Object" ∈ am_gT := by decide +kernel
theorem fc_X12_112 : Cond.classLink RX12 112 "[I" ∈ am_gT := by decide +kernel
theorem fc_L_55 : Cond.classLink RL 55 "[I" ∈ am_gT := by decide +kernel
theorem ob_X12_1 : Cond.methodLink RX12 1 Lib.objectInit ∈ am_gT := by decide +kernel
theorem ob_J0_1 : Cond.methodLink RJ0 1 Lib.objectInit ∈ am_gT := by decide +kernel
theorem ob_Jx35411_7 : Cond.methodLink RJx35411 7 Lib.objectInit ∈ am_gT := by decide +kernel
theorem ob_Jxa1e45_1 : Cond.methodLink RJxa1e45 1 Lib.objectInit ∈ am_gT := by decide +kernel
theorem ob_J5_3 : Cond.methodLink RJ5 3 Lib.objectInit ∈ am_gT := by decide +kernel
theorem ob_0 : Cond.instanceMethod Lib.objectInit ∈ am_gT ∧ Cond.code Lib.objectInit ⟨#[0xb1]⟩ 1 none ∈ am_gT := by decide +kernel
theorem cp_J0_212 : Cond.methodLink RJ0 212 arraycopyName ∈ am_gT := by decide +kernel
theorem cp_J7_150 : Cond.methodLink RJ7 150 arraycopyName ∈ am_gT := by decide +kernel
theorem cp_Jx4a65c_112 : Cond.methodLink RJx4a65c 112 arraycopyName ∈ am_gT := by decide +kernel
abbrev dm_gc : MethodName := ⟨"java/lang/Object", "getClass", "()Ljava/lang/Class;"⟩
theorem gc_w : (Cond.methodLink RJ7 86 dm_gc ∈ am_gT ∧ Cond.selects "[Ljava/lang/Object;" dm_gc dm_gc ∈ am_gT) ∧ Cond.instanceMethod dm_gc ∈ am_gT ∧ Cond.native dm_gc ∈ am_gT ∧ Cond.classLink RJ7 110 "[Ljava/lang/Object;" ∈ am_gT := by decide +kernel
def dm_rg (d : dm_D) (q : am_G × Nat) : Option Unit := (dm_rr d q).map (fun _ => ())
abbrev dm_cy : MethodName := ⟨"[B", "clone", "()Ljava/lang/Object;"⟩
abbrev dm_cz : MethodName := ⟨"java/lang/Object", "clone", "()Ljava/lang/Object;"⟩
theorem cl_w : Cond.sameMethod "[B" "java/lang/Object" "clone" "()Ljava/lang/Object;" ∈ am_gT ∧ Cond.native dm_cz ∈ am_gT ∧ Cond.instanceMethod dm_cz ∈ am_gT ∧ Cond.selects "[B" dm_cy dm_cz ∈ am_gT := by decide +kernel
theorem cl_J7_310 : Cond.methodLink RJ7 310 dm_cy ∈ am_gT := by decide +kernel
theorem fc_J7_311 : Cond.classLink RJ7 311 "[B" ∈ am_gT := by decide +kernel
/-- a row of bytes, once more -/
noncomputable def dm_cn (d : dm_D) (q : am_G × Nat) : Option dm_D := (dm_ar d q).bind (fun o => @ite _ (o.2.1 = 1 ∧ ∀ j, j < o.2.2.1 → -128 ≤ o.2.2.2 j ∧ o.2.2.2 j ≤ 127) (Classical.propDecidable _) (dm_mk d o.2.2.1 (.inr (.inl (1, o.2.2.1, o.2.2.2)))) none)
theorem dm_cn_some {d d' : dm_D} {q : am_G × Nat} (e : dm_cn d q = some d') : ∃ (n : Nat) (f : Nat → Int32) (i : Nat), q = (.inl 0, i) ∧ i < d.1 ∧ d.2.2 i = .inr (.inl (1, n, f)) ∧ (∀ j, j < n → -128 ≤ f j ∧ f j ≤ 127) ∧ dm_mk d n (.inr (.inl (1, n, f))) = some d' := by
  unfold dm_cn at e
  cases ho : dm_ar d q with
  | none => rw [ho] at e; cases e
  | some o =>
    obtain ⟨i, t, n, f⟩ := o
    obtain ⟨rfl, hi, hc⟩ := dm_ar_some ho
    rw [ho, Option.bind_some] at e
    by_cases hc2 : t = 1 ∧ ∀ j, j < n → -128 ≤ f j ∧ f j ≤ 127
    · rw [if_pos hc2] at e
      obtain ⟨rfl, hf⟩ := hc2
      exact ⟨n, f, i, rfl, hi, hc, hf, e⟩
    · rw [if_neg hc2] at e
      cases e
theorem dm_cn_of {d : dm_D} {n i : Nat} {f : Nat → Int32} (hi : i < d.1) (hc : d.2.2 i = .inr (.inl (1, n, f))) (hf : ∀ j, j < n → -128 ≤ f j ∧ f j ≤ 127) : dm_cn d (.inl 0, i) = dm_mk d n (.inr (.inl (1, n, f))) := by
  unfold dm_cn
  rw [dm_ar_of hi hc, Option.bind_some]
  exact if_pos ⟨rfl, hf⟩
theorem dm_cn_ar {d d' : dm_D} {q : am_G × Nat} (e : dm_cn d q = some d') : ∃ o, dm_ar d' (.inl 0, d.1) = some o ∧ o.2.1 = 1 := by
  obtain ⟨n, f, i, rfl, hi, hc, hf, e5⟩ := dm_cn_some e
  obtain ⟨-, rfl⟩ := dm_mk_some e5
  exact ⟨_, dm_ar_of (show d.1 < d.1 + 1 by omega) (show (if d.1 = d.1 then _ else _) = _ from if_pos rfl), rfl⟩
section DMX
variable {own nm : String} {cc : ByteArray} {nL : Nat} {ret : Option FieldType} {fr lc k0 : Nat} {X : dm_X} {Tm : Nat → List am_v → am_H → dm_D → Prop} {pc : Nat} {A : List (Option am_v)} {st : List am_v} {h : am_H} {d : dm_D}
theorem dr_ldcM {idx : Nat} (hd : decode cc pc = .ok (.ldc idx, 2)) (w1 : Cond.classLink own idx "[Ljava/lang/Object;" ∈ am_gT) (kk : dm_V own nm cc nL ret fr lc k0 X Tm (pc + 2) A (.inr (.inl 4, 4) :: st) h d) : dm_V own nm cc nL ret fr lc k0 X Tm pc A st h d := by
  intro p l e9 R s m args below meth c ad D cA Z F K cs ss H locs ls hW hS hz hL
  obtain ⟨x0, x1, x2, x3, x4, x5, x6, x7, x13, x14⟩ := F.2.2.2.2.2.1
  exact va_ldcM F.1 F.2.1 F.2.2.2.1 (F.2.2.2.2.1 _ w1) x5 hd (kk p l e9 R s m args below meth c ad D cA Z F K cs ss H locs ls hW hS hz hL)
theorem dr_acmpM {q : am_G × Nat} {off : Int} (tgt : Nat) (hd : decode cc pc = .ok (.if_acmp .ne off, 3)) (ht : (pc : Int) + off = (tgt : Int)) (kf : dm_V own nm cc nL ret fr lc k0 X Tm (pc + 3) A st h d) : dm_V own nm cc nL ret fr lc k0 X Tm pc A (.inr q :: .inr q :: st) h d := by
  intro p l e9 R s m args below meth c ad D cA Z F K cs ss H locs ls hW hS hz hL
  exact lv_acmp_ne (rx := some (ad q.1 q.2)) (ry := some (ad q.1 q.2)) F.1 F.2.1 hd ht (fun z => absurd rfl z) (fun _ => kf p l e9 R s m args below meth c ad D cA Z F K cs ss H locs ls hW hS hz hL)
theorem dr_getC {q : am_G × Nat} {idx : Nat} (hd : decode cc pc = .ok (.invokevirtual idx, 3)) (w1 : Cond.methodLink own idx dm_gc ∈ am_gT) (hfr : Nat.ble 1 fr = true) (hlc : Nat.ble 22 lc = true) (hst : Nat.ble (st.map am_ct).sum 8 = true) (hq : dm_rg d q = some ()) (kk : dm_V own nm cc nL ret fr lc k0 X Tm (pc + 3) A (.inr (.inl 4, 4) :: st) h d) : dm_V own nm cc nL ret fr lc k0 X Tm pc A (.inr q :: st) h d := by
  intro p l e9 R s m args below meth c ad D cA Z F K cs ss H locs ls hW hS hz hL
  obtain ⟨x0, x1, x2, x3, x4, x5, x6, x7, x13, x14⟩ := F.2.2.2.2.2.1
  have hts := F.2.2.2.2.1
  have hfr9 := F.2.2.2.2.2.2.2.2.2.2.1
  have hlc9 := F.2.2.2.2.2.2.2.2.2.2.2.1
  have hfr := Nat.le_of_ble_eq_true hfr
  have hlc := Nat.le_of_ble_eq_true hlc
  have hst := Nat.le_of_ble_eq_true hst
  obtain ⟨⟨i, n, f⟩, e1, -⟩ := Option.map_eq_some_iff.mp hq
  obtain ⟨rfl, hi, hc⟩ := dm_rr_some e1
  have he := dm_ws_at ad cA h d hi
  rw [hc] at he
  have hl9 : ((st.map (am_enc ad)).map fun v => v.category).sum + 14 ≤ R.locals := by rw [am_ct_sum]; omega
  exact va_getC (C := "[Ljava/lang/Object;") F.1 F.2.1 (F.2.2.1.trans hL.1.symm) F.2.2.2.1 (hts _ w1) (va_Dc.use x7) (hts _ gc_w.1.2) (hts _ gc_w.2.1) (hts _ gc_w.2.2.1) x5 ⟨_, hW.1 i _ he, rfl, va_nmO (F.2.2.2.2.2.1.1.1.2 3 _ rfl).2 rfl⟩ (Nat.le_trans hfr hfr9) hl9 hd (kk p l e9 R s m args below meth c ad D cA Z F K cs ss H locs ls hW hS hz hL)
theorem dr_getsF {idx : Nat} (hd : decode cc pc = .ok (.getstatic idx, 3)) (L : Cond.fieldLink own idx "jdk/internal/util/Preconditions" "SIOOBE_FORMATTER" "Ljava/util/function/BiFunction;" ∈ am_gT) (kk : ∀ v, am_isr v → dm_V own nm cc nL ret fr lc k0 X Tm (pc + 3) A (v :: st) h d) : dm_V own nm cc nL ret fr lc k0 X Tm pc A st h d := by
  intro p l e9 R s m args below meth c ad D cA Z F K cs ss H locs ls hW hS hz hL
  obtain ⟨e1, e2, e3, e6, e7, e8, e12⟩ := F.2.2.2.2.2.1.1
  rcases e12 with e12 | ⟨a, e12⟩
  · exact va_gets F.1 F.2.1 e12 hS F.2.2.2.1 (F.2.2.2.2.1 _ L) (fun _ z => z) hd (kk (.inl .null) (Or.inl rfl) p l e9 R s m args below meth c ad D cA Z F K cs ss H locs ls hW hS hz hL)
  · exact va_gets F.1 F.2.1 e12 hS F.2.2.2.1 (F.2.2.2.2.1 _ L) (fun _ z => z) hd (kk (.inl (.ref a)) (Or.inr ⟨a, rfl⟩) p l e9 R s m args below meth c ad D cA Z F K cs ss H locs ls hW hS hz hL)
/-- a row of bytes, cloned -/
theorem dr_clone {q : am_G × Nat} {idx : Nat} {d' : dm_D} (hd : decode cc pc = .ok (.invokevirtual idx, 3)) (w1 : Cond.methodLink own idx dm_cy ∈ am_gT) (hfr : Nat.ble 1 fr = true) (hlc : Nat.ble 22 lc = true) (hst : Nat.ble (st.map am_ct).sum 8 = true) (e : dm_cn d q = some d') (kk : dm_V own nm cc nL ret fr lc k0 X Tm (pc + 3) A (dm_o d.1 :: st) h d') : dm_V own nm cc nL ret fr lc k0 X Tm pc A (.inr q :: st) h d := by
  intro p l e9 R s m args below meth c ad D cA Z F K cs ss H locs ls hW hS hz hL
  obtain ⟨n, f, i, rfl, hi, hc, hf, e5⟩ := dm_cn_some e
  clear e
  obtain ⟨hk, rfl⟩ := dm_mk_some e5
  have hts := F.2.2.2.2.1
  have hE := F.2.2.2.2.2.1.1
  have hK := hE.1
  obtain ⟨x0, x1, x2, x3, x4, x5, x6, x7, x13, x14⟩ := F.2.2.2.2.2.1
  have ha := F.2.2.2.2.2.2.2.2.1
  have hfr9 := F.2.2.2.2.2.2.2.2.2.2.1
  have hlc9 := F.2.2.2.2.2.2.2.2.2.2.2.1
  have hc9 := F.2.2.2.2.2.2.2.2.2.2.2.2.1
  have hs9 := F.2.2.2.2.2.2.2.2.2.2.2.2.2.1
  have hfr := Nat.le_of_ble_eq_true hfr
  have hlc := Nat.le_of_ble_eq_true hlc
  have hst := Nat.le_of_ble_eq_true hst
  have he := dm_ws_at ad cA h d hi
  rw [hc] at he
  have hl9 : ((st.map (am_enc ad)).map fun v => v.category).sum + 14 ≤ R.locals := by rw [am_ct_sum]; omega
  refine W_exact (fun c2 s2 z1 z2 _ _ => ?_)
  refine va_clone (x := (n, .inl f)) F.1 F.2.1 (F.2.2.1.trans hL.1.symm) F.2.2.2.1 (hts _ w1) (hts _ cl_w.1) (hts _ cl_w.2.1) (hts _ cl_w.2.2.1) (hts _ cl_w.2.2.2) x13.2 hK hW.1 (dm_ws_D ha) hS hE.2.2.1 i 1 he rfl (va_nm_byte (hK.2 1 _ rfl).2) ?_ (Nat.le_trans hfr hfr9) hl9 (by omega) (show s2 + n ≤ R.slots by omega) hd (fun q H1 k1 p1 p2 p3 => ?_)
  · exact va_fit (F := fun j => .int (f j)) (fun j hj => by
      have := hf j hj
      simp only [fits, Bool.and_eq_true, decide_eq_true_eq]
      exact this)
  · exact dm_made (x := .inr (.inl (1, n, f))) F K hW hz hL z1 z2 hk (fun g z => by cases z) p1 p2 p3 kk
theorem dr_castB {q : am_G × Nat} {idx : Nat} (hd : decode cc pc = .ok (.checkcast idx, 3)) (w1 : Cond.classLink own idx "[B" ∈ am_gT) (hq : ∃ o, dm_ar d q = some o ∧ o.2.1 = 1) (kk : dm_V own nm cc nL ret fr lc k0 X Tm (pc + 3) A (.inr q :: st) h d) : dm_V own nm cc nL ret fr lc k0 X Tm pc A (.inr q :: st) h d := by
  intro p l e9 R s m args below meth c ad D cA Z F K cs ss H locs ls hW hS hz hL
  obtain ⟨⟨i, t, n, f⟩, e, ht⟩ := hq
  have ht : t = 1 := ht
  subst ht
  obtain ⟨rfl, hi, hc⟩ := dm_ar_some e
  have he := dm_ws_at ad cA h d hi
  rw [hc] at he
  exact va_castA F.1 F.2.1 F.2.2.2.1 (F.2.2.2.2.1 _ w1) hW.1 i he (va_nm_byte (F.2.2.2.2.2.1.1.1.2 1 _ rfl).2) hd (kk p l e9 R s m args below meth c ad D cA Z F K cs ss H locs ls hW hS hz hL)
end DMX
theorem C_J3_checkIndex_8e157 {X : dm_X} {x0 x1 : Int32} {u : am_v} (hu : am_isr u) {h : am_H} {d : dm_D} (c0 : ¬ x0 < 0) (c1 : x0 < x1) : dm_Mx X yJ3_checkIndex_8e157 cJ3_checkIndex_8e157 3 (some .int) 0 0 [am_i x0, am_i x1, u] h d (some (am_i x0)) h d := by
  rcases hu with rfl | ⟨a, rfl⟩
  · refine dm_M.ofx (A := [some (am_i x0), some (am_i x1), some (.inl .null)]) (by decide +kernel) rfl (ble rfl) (fun Q hQ => ?_)
    refine ql_i0 dJ3_checkIndex_8e157_0 ?_
    refine dr_if_lt 9 dJ3_checkIndex_8e157_1 (by decide) (fun z => absurd z c0) (fun _ => ?_)
    refine ql_i0 dJ3_checkIndex_8e157_4 ?_
    refine ql_i1 dJ3_checkIndex_8e157_5 ?_
    refine dr_ic_lt 16 dJ3_checkIndex_8e157_6 (by decide) (fun _ => ?_) (fun z => absurd c1 z)
    refine ql_i0 dJ3_checkIndex_8e157_16 ?_
    exact dr_iret dJ3_checkIndex_8e157_17 rfl rfl hQ
  · refine dm_M.ofx (A := [some (am_i x0), some (am_i x1), some (.inl (.ref a))]) (by decide +kernel) rfl (ble rfl) (fun Q hQ => ?_)
    refine ql_i0 dJ3_checkIndex_8e157_0 ?_
    refine dr_if_lt 9 dJ3_checkIndex_8e157_1 (by decide) (fun z => absurd z c0) (fun _ => ?_)
    refine ql_i0 dJ3_checkIndex_8e157_4 ?_
    refine ql_i1 dJ3_checkIndex_8e157_5 ?_
    refine dr_ic_lt 16 dJ3_checkIndex_8e157_6 (by decide) (fun _ => ?_) (fun z => absurd c1 z)
    refine ql_i0 dJ3_checkIndex_8e157_16 ?_
    exact dr_iret dJ3_checkIndex_8e157_17 rfl rfl hQ
def F_J15_checkIndex_7cf53 (x0 x1 : Int32) : Option Int32 := if ¬ x0 < 0 ∧ x0 < x1 then some x0 else none
theorem C_J15_checkIndex_7cf53 {X : dm_X} {x0 x1 : Int32} {h : am_H} {d : dm_D} {a : Int32} (e : F_J15_checkIndex_7cf53 x0 x1 = some a) : dm_Mx X yJ15_checkIndex_7cf53 cJ15_checkIndex_7cf53 2 (some .int) 1 30 [am_i x0, am_i x1] h d (some (am_i a)) h d := by
  obtain ⟨⟨c0, c1⟩, e⟩ := if_some e
  cases e
  refine dm_M.ofx (A := [some (am_i x0), some (am_i x1)]) (by decide +kernel) rfl (ble rfl) (fun Q hQ => ?_)
  refine ql_i0 dJ15_checkIndex_7cf53_0 ?_
  refine ql_i1 dJ15_checkIndex_7cf53_1 ?_
  refine dr_null dJ15_checkIndex_7cf53_2 ?_
  refine dc_S3i dJ15_checkIndex_7cf53_3 ml_J15_105 mc_J3_checkIndex_8e157 (C_J3_checkIndex_8e157 (Or.inl rfl) c0 c1) rfl rfl rfl ?_
  exact dr_iret dJ15_checkIndex_7cf53_6 rfl rfl hQ
def F_J0_checkIndex_df160 (x0 x1 : Int32) : Option Unit := if ¬ x0 < 0 ∧ x0 < x1 then some () else none
theorem C_J0_checkIndex_df160 {X : dm_X} {x0 x1 : Int32} {h : am_H} {d : dm_D} {a : Unit} (e : F_J0_checkIndex_df160 x0 x1 = some a) : dm_Mx X yJ0_checkIndex_df160 cJ0_checkIndex_df160 2 none 1 30 [am_i x0, am_i x1] h d none h d := by
  obtain ⟨⟨c0, c1⟩, e⟩ := if_some e
  cases e
  refine dm_M.ofx (A := [some (am_i x0), some (am_i x1)]) (by decide +kernel) rfl (ble rfl) (fun Q hQ => ?_)
  refine ql_i0 dJ0_checkIndex_df160_0 ?_
  refine ql_i1 dJ0_checkIndex_df160_1 ?_
  refine dr_getsF dJ0_checkIndex_df160_2 fs_J0_1053 (fun v hv => ?_)
  refine dc_S3i dJ0_checkIndex_df160_5 ml_J0_1059 mc_J3_checkIndex_8e157 (C_J3_checkIndex_8e157 hv c0 c1) rfl rfl rfl ?_
  refine dr_pop dJ0_checkIndex_df160_8 trivial ?_
  exact dr_vret dJ0_checkIndex_df160_9 rfl hQ
theorem dm_selp {s : State} {args : Array Value} {y : MethodName} (hy : y.cls = RJ5) (h0 : (Cond.selects RJ4 yJ5_getValue_6d5f1 yJ5_getValue_6d5f1).before args s = true) (hpriv : (Cond.privateMethod y).before args s = true) (hinst : (Cond.instanceMethod y).before args s = true) : (Cond.selects RJ4 y y).before args s = true := by
  obtain ⟨c, r, m, hc, hr, hm, -, k, hk, hni⟩ := Cond.selects_spec h0
  obtain ⟨mk, methM, hnamed, hmethM, -, -⟩ := Cond.instanceMethod_spec hinst
  have hfound : s.methodFound? y.cls y.name y.desc = some mk := State.methodFound?_of_named hnamed (by rw [hy]; exact ⟨by decide, by decide⟩)
  have e1 : s.vm.findClass RJ5 = some m.cls := findClass_of_methodNamed hm
  have e2 : s.vm.findClass RJ5 = some mk.cls := by rw [← hy]; exact findClass_of_methodNamed hnamed
  have hcls : mk.cls = m.cls := Option.some.inj (e2.symm.trans e1)
  have hsel : selectMethod {} s.vm c mk = .method mk := selectMethod_private hmethM (Cond.privateMethod_at hpriv mk methM hnamed hmethM)
  simp only [Cond.before, Cond.holds, Cond.value, hc, hfound, hnamed, hsel, hcls, hk]
  simp
  exact hni
theorem gv_w : Cond.selects RJ4 yJ5_getValue_6d5f1 yJ5_getValue_6d5f1 ∈ am_gT := by decide +kernel
def am_cq (y : MethodName) (bs : ByteArray) (nL : Nat) (ret : Option FieldType) (n : Nat) : Prop := Cond.code y bs nL ret ∈ am_gT ∧ Cond.instanceMethod y ∈ am_gT ∧ Cond.sameMethod y.cls y.cls y.name y.desc ∈ am_gT ∧ y ∈ dm_pT ∧ Cond.initialized y.cls ∈ am_gT ∧ y.cls = RJ5 ∧ (parseMethodDescriptor y.desc).map (fun d => d.parameters.length) = some n
section DMY
variable {own nm : String} {cc : ByteArray} {nL : Nat} {ret : Option FieldType} {fr lc k0 : Nat} {X : dm_X} {Tm : Nat → List am_v → am_H → dm_D → Prop} {pc : Nat} {A : List (Option am_v)} {st : List am_v} {h : am_H} {d : dm_D}
theorem dr_callQ {idx nLy n9 fr9 lc9 : Nat} {x y : MethodName} {bs : ByteArray} {rety : Option FieldType} {Q : Option am_v → am_H → dm_D → Prop} {As : List am_v} {q : am_G × Nat} (hd : decode cc pc = .ok (.invokevirtual idx, 3)) (L : Cond.methodLink own idx x ∈ am_gT)
    (hY : ∀ (args : Array Value) (s : State), (∀ w ∈ am_gT, w.before args s = true) → (∀ y ∈ dm_pT, (Cond.selects RJ4 y y).before #[] s = true) → Cond.code y bs nLy rety ∈ am_gT ∧ (Cond.initialized y.cls).before args s = true ∧ (x.cls ≠ "java/lang/invoke/MethodHandle" ∧ x.cls ≠ "java/lang/invoke/VarHandle") ∧ (∀ sig, parseMethodDescriptor x.desc = some sig → n9 = sig.parameters.length) ∧ (Cond.sameMethod x.cls x.cls x.name x.desc).before args s = true ∧ va_Decl s x ∧ (Cond.selects RJ4 x y).before args s = true ∧ (Cond.instanceMethod y).before args s = true)
    (hM : dm_M X y bs nLy rety fr9 lc9 (.inr q :: As) h d Q) (hq : dm_isc d q 14) (hn : As.length = n9) (hfr : Nat.ble (fr9 + 1) fr = true) (hlc : Nat.ble (8 + (nLy + 11) + lc9) lc = true) (hst : Nat.ble (st.map am_ct).sum 8 = true) (kk : ∀ (r : Option am_v) (h9 : am_H) (d9 : dm_D), Q r h9 d9 → dm_V own nm cc nL ret fr lc k0 X Tm (pc + 3) A (r.toList ++ st) h9 d9) : dm_V own nm cc nL ret fr lc k0 X Tm pc A (As.reverse ++ .inr q :: st) h d := by
  intro p l e9 R s m args below meth c ad D cA Z F K cs ss H locs ls hW hS hz hL
  have hts := F.2.2.2.2.1
  obtain ⟨y1, y2, y3, y4, y5, y6, y7, y8⟩ := hY args s hts F.2.2.2.2.2.1.2.2.2.2.2.2.2.2.2.2
  have hfr' := F.2.2.2.2.2.2.2.2.2.2.1
  have hlc' := F.2.2.2.2.2.2.2.2.2.2.2.1
  have hfr := Nat.le_of_ble_eq_true hfr
  have hlc := Nat.le_of_ble_eq_true hlc
  have hst := Nat.le_of_ble_eq_true hst
  have hk1 := hW.2.2.1
  have hME := hM l ad D cA F.2.2.2.2.2.2.2.2.1 F.2.2.2.2.2.2.2.2.2.2.2.2.2.2
  have hstk : 2 * 0 + ((st.map (am_enc ad)).map fun v => v.category).sum ≤ 8 := by rw [am_ct_sum]; omega
  refine W_exact (fun c2 s2 z1 z2 _ _ => ?_)
  have b1 := dm_rd (fr9 := 0) (lc9 := 0) (cs := c2) (k1 := d.2.1) F (by omega) hk1
  have b2 := dm_rd (fr9 := 0) (lc9 := 0) (cs := s2) (k1 := d.2.1) F (by omega) hk1
  have hr := va_runU (p := p) (l := l) (e := e9) (R := R) (below := below) (meth := meth) (locs := locs) (cells := c2) (slots := s2) (H := H) (As := As.map (am_enc ad)) (rest := st.map (am_enc ad)) (g := F0 m pc ls ((As.reverse ++ .inr q :: st).map (am_enc ad))) (own := own) (index := idx) (Ts := am_gT) (cc := cc) (nL := nL) (n := n9) (b := ad q.1 q.2) (C := RJ4) (owner := x.cls) (x := x)
    ⟨F.1, F.2.1, F.2.2.1, F.2.2.2.1, hts⟩ hME ⟨⟨rfl, rfl, Nat.le_trans hfr hfr', Nat.le_trans hlc hlc', am_pay hts y1, List.mem_cons_self⟩, hts _ y1, y2, y3, y4, hts _ L, y5, y6, y7, y8⟩
    ⟨dm_blind _ _ _ _ _ _ _, dm_recv (C := (RJ4, TJ4, 4)) F.2.2.2.2.2.1 hW hS hq rfl, dm_pre (as := .inr q :: As) F.2.2.2.2.2.1 hW hS⟩ rfl (by rw [List.length_map]; exact hn) hL.1 (by simp only [List.map_append, List.map_cons, List.map_reverse]; rfl) hstk hd ⟨b1.1, b2.2⟩
  exact dm_after (len := 3) F K hS hz hL kk (fun T hT X9 => by
    obtain ⟨v, st₀, t, T', L9, a1, a2, a3, a4, a5, a6, a7⟩ := hr T hT X9
    exact ⟨v, st₀, t, T', L9, a1, a2, a3, a4, a6, a7⟩)
theorem cq_w {y : MethodName} {bs : ByteArray} {nLy n9 : Nat} {rety : Option FieldType} (Y : am_cq y bs nLy rety n9) (args : Array Value) (s : State) (hts : ∀ w ∈ am_gT, w.before args s = true) (hp : ∀ y ∈ dm_pT, (Cond.selects RJ4 y y).before #[] s = true) : Cond.code y bs nLy rety ∈ am_gT ∧ (Cond.initialized y.cls).before args s = true ∧ (y.cls ≠ "java/lang/invoke/MethodHandle" ∧ y.cls ≠ "java/lang/invoke/VarHandle") ∧ (∀ sig, parseMethodDescriptor y.desc = some sig → n9 = sig.parameters.length) ∧ (Cond.sameMethod y.cls y.cls y.name y.desc).before args s = true ∧ va_Decl s y ∧ (Cond.selects RJ4 y y).before args s = true ∧ (Cond.instanceMethod y).before args s = true := by
  obtain ⟨y1, y2, y3, y4, y5, y6, y7⟩ := Y
  exact ⟨y1, hts _ y5, by rw [y6]; exact ⟨by decide, by decide⟩, fun sig h => by rw [h] at y7; exact (Option.some.inj y7).symm, hts _ y3, va_Decl.of (hts _ y2) (hts _ y1), va_any rfl (hp y y4), hts _ y2⟩
theorem lo_w : (Cond.code yJ4_length_8abf5 cJ4_length_8abf5 1 (some .int) ∈ am_gT ∧ Cond.initialized RJ4 ∈ am_gT ∧ Cond.sameMethod RJ5 RJ5 "length" "()I" ∈ am_gT) ∧ (Cond.instanceMethod yJ5_length_8abf5 ∈ am_gT ∧ Cond.code yJ5_length_8abf5 cJ5_length_8abf5 1 (some .int) ∈ am_gT) ∧ Cond.selects RJ4 yJ5_length_8abf5 yJ4_length_8abf5 ∈ am_gT ∧ Cond.instanceMethod yJ4_length_8abf5 ∈ am_gT := by decide +kernel
theorem lo_wd : (parseMethodDescriptor yJ5_length_8abf5.desc).map (fun d => d.parameters.length) = some 0 := by decide +kernel

theorem dc_Q1i {idx nLy fr9 lc9 : Nat} {y : MethodName} {bs : ByteArray} {rety : Option FieldType} {h1 : am_H} {d1 : dm_D} {v : Int32} {x0 : am_v} {q : am_G × Nat} (hd : decode cc pc = .ok (.invokevirtual idx, 3)) (L : Cond.methodLink own idx y ∈ am_gT) (Y : am_cq y bs nLy rety 1) (hM : dm_Mx X y bs nLy rety fr9 lc9 [.inr q, x0] h d (some (am_i v)) h1 d1) (hq : dm_isc d q 14) (hfr : Nat.ble (fr9 + 1) fr = true) (hlc : Nat.ble (8 + (nLy + 11) + lc9) lc = true) (hst : Nat.ble (st.map am_ct).sum 8 = true) (kk : dm_V own nm cc nL ret fr lc k0 X Tm (pc + 3) A (am_i v :: st) h1 d1) : dm_V own nm cc nL ret fr lc k0 X Tm pc A (x0 :: .inr q :: st) h d :=
  dr_callQ (x := y) (As := [x0]) hd L (fun args s hts hp => cq_w Y args s hts hp) hM hq rfl hfr hlc hst (by rintro r h9 d9 ⟨rfl, rfl, rfl⟩; exact kk)
theorem dc_Q1v {idx nLy fr9 lc9 : Nat} {y : MethodName} {bs : ByteArray} {rety : Option FieldType} {h1 : am_H} {d1 : dm_D} {x0 : am_v} {q : am_G × Nat} (hd : decode cc pc = .ok (.invokevirtual idx, 3)) (L : Cond.methodLink own idx y ∈ am_gT) (Y : am_cq y bs nLy rety 1) (hM : dm_Mx X y bs nLy rety fr9 lc9 [.inr q, x0] h d none h1 d1) (hq : dm_isc d q 14) (hfr : Nat.ble (fr9 + 1) fr = true) (hlc : Nat.ble (8 + (nLy + 11) + lc9) lc = true) (hst : Nat.ble (st.map am_ct).sum 8 = true) (kk : dm_V own nm cc nL ret fr lc k0 X Tm (pc + 3) A (st) h1 d1) : dm_V own nm cc nL ret fr lc k0 X Tm pc A (x0 :: .inr q :: st) h d :=
  dr_callQ (x := y) (As := [x0]) hd L (fun args s hts hp => cq_w Y args s hts hp) hM hq rfl hfr hlc hst (by rintro r h9 d9 ⟨rfl, rfl, rfl⟩; exact kk)
theorem dc_Q2v {idx nLy fr9 lc9 : Nat} {y : MethodName} {bs : ByteArray} {rety : Option FieldType} {h1 : am_H} {d1 : dm_D} {x0 x1 : am_v} {q : am_G × Nat} (hd : decode cc pc = .ok (.invokevirtual idx, 3)) (L : Cond.methodLink own idx y ∈ am_gT) (Y : am_cq y bs nLy rety 2) (hM : dm_Mx X y bs nLy rety fr9 lc9 [.inr q, x0, x1] h d none h1 d1) (hq : dm_isc d q 14) (hfr : Nat.ble (fr9 + 1) fr = true) (hlc : Nat.ble (8 + (nLy + 11) + lc9) lc = true) (hst : Nat.ble (st.map am_ct).sum 8 = true) (kk : dm_V own nm cc nL ret fr lc k0 X Tm (pc + 3) A (st) h1 d1) : dm_V own nm cc nL ret fr lc k0 X Tm pc A (x1 :: x0 :: .inr q :: st) h d :=
  dr_callQ (x := y) (As := [x0, x1]) hd L (fun args s hts hp => cq_w Y args s hts hp) hM hq rfl hfr hlc hst (by rintro r h9 d9 ⟨rfl, rfl, rfl⟩; exact kk)
theorem dc_O0i {idx fr9 lc9 : Nat} {h1 : am_H} {d1 : dm_D} {v : Int32} {q : am_G × Nat} (hd : decode cc pc = .ok (.invokevirtual idx, 3)) (L : Cond.methodLink own idx yJ5_length_8abf5 ∈ am_gT) (hM : dm_Mx X yJ4_length_8abf5 cJ4_length_8abf5 1 (some .int) fr9 lc9 [.inr q] h d (some (am_i v)) h1 d1) (hq : dm_isc d q 14) (hfr : Nat.ble (fr9 + 1) fr = true) (hlc : Nat.ble (8 + (1 + 11) + lc9) lc = true) (hst : Nat.ble (st.map am_ct).sum 8 = true) (kk : dm_V own nm cc nL ret fr lc k0 X Tm (pc + 3) A (am_i v :: st) h1 d1) : dm_V own nm cc nL ret fr lc k0 X Tm pc A (.inr q :: st) h d :=
  dr_callQ (x := yJ5_length_8abf5) (As := []) hd L (fun args s hts _ => ⟨lo_w.1.1, hts _ lo_w.1.2.1, ⟨by decide, by decide⟩, fun sig h => by have h2 := lo_wd; rw [h] at h2; exact (Option.some.inj h2).symm, hts _ lo_w.1.2.2, va_Decl.of (hts _ lo_w.2.1.1) (hts _ lo_w.2.1.2), hts _ lo_w.2.2.1, hts _ lo_w.2.2.2⟩) hM hq rfl hfr hlc hst (by rintro r h9 d9 ⟨rfl, rfl, rfl⟩; exact kk)
end DMY
theorem mq_J5_newCapacity_0f7a4 : am_cq yJ5_newCapacity_0f7a4 cJ5_newCapacity_0f7a4 6 (some .int) 1 := by unfold am_cq; decide +kernel
theorem mq_J5_ensureCapacityInternal_d00df : am_cq yJ5_ensureCapacityInternal_d00df cJ5_ensureCapacityInternal_d00df 3 (none) 1 := by unfold am_cq; decide +kernel
theorem mq_J5_inflateIfNeededFor_a7421 : am_cq yJ5_inflateIfNeededFor_a7421 cJ5_inflateIfNeededFor_a7421 2 (none) 1 := by unfold am_cq; decide +kernel
theorem mq_J5_putStringAt_47b60 : am_cq yJ5_putStringAt_47b60 cJ5_putStringAt_47b60 3 (none) 2 := by unfold am_cq; decide +kernel
