/-! text constants: their length, their signs -/
def am_tlen (t : Nat) : Int32 := Int32.ofNat (am_tx t).length
def am_tchr (t : Nat) (i : Int32) : Int32 := (am_tx t).getD i.toNatClampNeg 0
section AMT
variable {own : String} {cc : ByteArray} {nL : Nat} {ret : Option FieldType} {fr lc mc ms : Nat} {tb : am_tb} {Tm : Nat → List am_v → am_H → Prop} {cs ss pc : Nat} {A : List (Option am_v)} {st : List am_v} {h : am_H}
theorem ar_ldcT {idx t : Nat} {text : String} (hd : decode cc pc = .ok (.ldc idx, 2)) (hw : (own, idx, text, t) ∈ am_sT) (k : am_V own cc nL ret fr lc mc ms tb Tm cs ss (pc + 2) A (am_r (.inl 2) t :: st) h) : am_V own cc nL ret fr lc mc ms tb Tm cs ss pc A st h := by
  intro p l e R s m args below meth c lo ad D cA Z F K hc hcs H locs ls hW hS hL
  obtain ⟨e1, e2, e3, e6, e7, e8, e12⟩ := F.2.2.2.2.2.1
  exact va_ldcS F.1 F.2.1 F.2.2.2.1 (e8 _ hw) hd (k p l e R s m args below meth c lo ad D cA Z F K hc hcs H locs ls hW hS hL)
/-- a reference or null of which nothing more is known -/
def am_isr (v : am_v) : Prop := v = .inl .null ∨ ∃ a, v = .inl (.ref a)
theorem ar_getT {idx t : Nat} (hd : decode cc pc = .ok (.getfield idx, 3)) (L : Cond.fieldLink own idx "java/lang/String" "value" "[B" ∈ am_gT) (ht : Nat.blt t 22 = true) (k : am_V own cc nL ret fr lc mc ms tb Tm cs ss (pc + 3) A (am_r (.inl 3) t :: st) h) : am_V own cc nL ret fr lc mc ms tb Tm cs ss pc A (am_r (.inl 2) t :: st) h := by
  intro p l e R s m args below meth c lo ad D cA Z F K hc hcs H locs ls hW hS hL
  obtain ⟨e1, e2, e3, e6, e7, e8, e12⟩ := F.2.2.2.2.2.1
  exact vk_getf F.1 F.2.1 (e6.1 t (Nat.blt_eq.mp ht)).2.2.1 hS F.2.2.2.1 (F.2.2.2.2.1 _ L) (fun _ z => z) hd (k p l e R s m args below meth c lo ad D cA Z F K hc hcs H locs ls hW hS hL)
theorem ar_getTc {idx t : Nat} (hd : decode cc pc = .ok (.getfield idx, 3)) (L : Cond.fieldLink own idx "java/lang/String" "coder" "B" ∈ am_gT) (ht : Nat.blt t 22 = true) (k : am_V own cc nL ret fr lc mc ms tb Tm cs ss (pc + 3) A (am_i 0 :: st) h) : am_V own cc nL ret fr lc mc ms tb Tm cs ss pc A (am_r (.inl 2) t :: st) h := by
  intro p l e R s m args below meth c lo ad D cA Z F K hc hcs H locs ls hW hS hL
  obtain ⟨e1, e2, e3, e6, e7, e8, e12⟩ := F.2.2.2.2.2.1
  exact vk_getf F.1 F.2.1 (e6.1 t (Nat.blt_eq.mp ht)).2.1 hS F.2.2.2.1 (F.2.2.2.2.1 _ L) (fun _ z => z) hd (k p l e R s m args below meth c lo ad D cA Z F K hc hcs H locs ls hW hS hL)
theorem ar_tlen {t : Nat} (hd : decode cc pc = .ok (.arraylength, 1)) (ht : Nat.blt t 22 = true) (k : am_V own cc nL ret fr lc mc ms tb Tm cs ss (pc + 1) A (am_i (Int32.ofNat (am_sl.getD t 0)) :: st) h) : am_V own cc nL ret fr lc mc ms tb Tm cs ss pc A (am_r (.inl 3) t :: st) h := by
  intro p l e R s m args below meth c lo ad D cA Z F K hc hcs H locs ls hW hS hL
  obtain ⟨e1, e2, e3, e6, e7, e8, e12⟩ := F.2.2.2.2.2.1
  exact va_tlen F.1 F.2.1 (e6.1 t (Nat.blt_eq.mp ht)).2.2.2 hS rfl hd (k p l e R s m args below meth c lo ad D cA Z F K hc hcs H locs ls hW hS hL)
theorem ar_tbald {t : Nat} {i : Int32} (hd : decode cc pc = .ok (.baload, 1)) (ht : Nat.blt t 22 = true) (hi : vp_in i (am_sl.getD t 0)) (k : am_V own cc nL ret fr lc mc ms tb Tm cs ss (pc + 1) A (am_i ((am_sb.getD t []).getD i.toNatClampNeg 0) :: st) h) : am_V own cc nL ret fr lc mc ms tb Tm cs ss pc A (am_i i :: am_r (.inl 3) t :: st) h := by
  intro p l e R s m args below meth c lo ad D cA Z F K hc hcs H locs ls hW hS hL
  obtain ⟨e1, e2, e3, e6, e7, e8, e12⟩ := F.2.2.2.2.2.1
  exact va_tb F.1 F.2.1 (e6.1 t (Nat.blt_eq.mp ht)).2.2.2 hS hi rfl hd (k p l e R s m args below meth c lo ad D cA Z F K hc hcs H locs ls hW hS hL)
theorem ar_getsC {idx : Nat} (hd : decode cc pc = .ok (.getstatic idx, 3)) (L : Cond.fieldLink own idx "java/lang/String" "COMPACT_STRINGS" "Z" ∈ am_gT) (k : am_V own cc nL ret fr lc mc ms tb Tm cs ss (pc + 3) A (am_i 1 :: st) h) : am_V own cc nL ret fr lc mc ms tb Tm cs ss pc A st h := by
  intro p l e R s m args below meth c lo ad D cA Z F K hc hcs H locs ls hW hS hL
  obtain ⟨e1, e2, e3, e6, e7, e8, e12⟩ := F.2.2.2.2.2.1
  exact va_gets F.1 F.2.1 e7 hS F.2.2.2.1 (F.2.2.2.2.1 _ L) (fun _ z => z) hd (k p l e R s m args below meth c lo ad D cA Z F K hc hcs H locs ls hW hS hL)
theorem ar_getsF {idx : Nat} (hd : decode cc pc = .ok (.getstatic idx, 3)) (L : Cond.fieldLink own idx "jdk/internal/util/Preconditions" "SIOOBE_FORMATTER" "Ljava/util/function/BiFunction;" ∈ am_gT) (k : ∀ v, am_isr v → am_V own cc nL ret fr lc mc ms tb Tm cs ss (pc + 3) A (v :: st) h) : am_V own cc nL ret fr lc mc ms tb Tm cs ss pc A st h := by
  intro p l e R s m args below meth c lo ad D cA Z F K hc hcs H locs ls hW hS hL
  obtain ⟨e1, e2, e3, e6, e7, e8, e12⟩ := F.2.2.2.2.2.1
  rcases e12 with e12 | ⟨a, e12⟩
  · exact va_gets F.1 F.2.1 e12 hS F.2.2.2.1 (F.2.2.2.2.1 _ L) (fun _ z => z) hd (k (.inl .null) (Or.inl rfl) p l e R s m args below meth c lo ad D cA Z F K hc hcs H locs ls hW hS hL)
  · exact va_gets F.1 F.2.1 e12 hS F.2.2.2.1 (F.2.2.2.2.1 _ L) (fun _ z => z) hd (k (.inl (.ref a)) (Or.inr ⟨a, rfl⟩) p l e R s m args below meth c lo ad D cA Z F K hc hcs H locs ls hW hS hL)
theorem ar_i2c {x : Int32} (hd : decode cc pc = .ok (.i2c, 1)) (k : am_V own cc nL ret fr lc mc ms tb Tm cs ss (pc + 1) A (am_i (x.toUInt32 % 65536).toInt32 :: st) h) : am_V own cc nL ret fr lc mc ms tb Tm cs ss pc A (am_i x :: st) h := by
  intro p l e R s m args below meth c lo ad D cA Z F K hc hcs H locs ls hW hS hL
  exact lv_i2c F.1 F.2.1 hd rfl (k p l e R s m args below meth c lo ad D cA Z F K hc hcs H locs ls hW hS hL)
/-- a call of a text constant -/
theorem ar_callT {idx nLy n9 fr9 lc9 mc9 ms9 t : Nat} {y : MethodName} {bs : ByteArray} {rety : Option FieldType} {Q : Option am_v → am_H → Prop} {As : List am_v} (hd : decode cc pc = .ok (.invokevirtual idx, 3)) (L : Cond.methodLink own idx y ∈ am_gT) (Y : am_cv y bs nLy rety n9) (hM : am_M y bs nLy rety fr9 lc9 mc9 ms9 (am_r (.inl 2) t :: As) h Q) (hcy : "java/lang/String" = y.cls) (ht : Nat.blt t 22 = true) (hn : As.length = n9) (hfr : fr9 + 1 ≤ fr) (hlc : 8 + (nLy + 11) + lc9 ≤ lc) (hcs9 : cs + mc9 ≤ mc) (hss9 : ss + ms9 ≤ ms) (hst : (st.map am_ct).sum ≤ 8) (kk : ∀ (r : Option am_v) (h9 : am_H), Q r h9 → am_V own cc nL ret fr lc mc ms tb Tm (cs + mc9) (ss + ms9) (pc + 3) (A) (r.toList ++ st) h9) : am_V own cc nL ret fr lc mc ms tb Tm cs ss (pc) (A) (As.reverse ++ am_r (.inl 2) t :: st) h := by
  intro p l e R s m args below meth c lo ad D cA Z F K hc hcs H locs ls hW hS hL
  obtain ⟨y1, y2, y3, y4, y5, y6, y7⟩ := Y
  have hts := F.2.2.2.2.1
  obtain ⟨e1, e2, e3, e6, e7, e8, e12⟩ := F.2.2.2.2.2.1
  have hfr' := F.2.2.2.2.2.2.2.2.2.1
  have hlc' := F.2.2.2.2.2.2.2.2.2.2.1
  have hmc' := F.2.2.2.2.2.2.2.2.2.2.2.1
  have hms' := F.2.2.2.2.2.2.2.2.2.2.2.2.1
  have hr := va_runV (p := p) (l := l) (e := e) (R := R) (below := below) (meth := meth) (locs := locs) (cells := cs) (slots := ss) (H := H) (As := As.map (am_enc ad)) (b := ad (.inl 2) t) (rest := st.map (am_enc ad)) (g := F0 m pc ls ((As.reverse ++ am_r (.inl 2) t :: st).map (am_enc ad))) (C := y.cls) (own := own) (index := idx) (Ts := am_gT) (cc := cc) (nL := nL) (n := n9)
    ⟨F.1, F.2.1, F.2.2.1, F.2.2.2.1, hts⟩ (hM l lo ad D cA F.2.2.2.2.2.2.2.2.1) ⟨⟨rfl, rfl, Nat.le_trans hfr hfr', Nat.le_trans hlc hlc', am_pay hts y1, List.mem_cons_self, hts _ y1, hts _ y4, ⟨y5, y6⟩, (fun sig h => by rw [h] at y7; exact (Option.some.inj y7).symm), hts _ L⟩, hts _ y2, hts _ y3⟩
    ⟨am_blind _ _ _ _ _ _, by rw [← hcy]; exact vk_recv e6 (Nat.blt_eq.mp ht) hS, fun U hU hw => ⟨rfl, by rw [hU]; exact hW, am_E_call F.2.2.2.2.2.1 hS hU hw⟩⟩ rfl (by rw [List.length_map]; exact hn) hL.1 (by simp only [List.map_append, List.map_cons, List.map_reverse]; rfl) (by rw [am_ct_sum]; exact Nat.le_trans (by show 2 * 0 + _ ≤ _; omega) hst) hd ⟨Nat.le_trans hcs9 hmc', Nat.le_trans hss9 hms'⟩
  refine am_after hr hS (fun v h9 H1 locs1 q1 q2 q3 => ?_)
  have := kk v h9 q1 p l e R s m args below meth c lo ad D cA Z F K hcs9 hss9 H1 locs1 ls q2 q3 hL
  rw [List.map_append] at this
  exact this
end AMT
theorem fl_J0_38 : Cond.fieldLink RJ0 38 "java/lang/String" "COMPACT_STRINGS" "Z" ∈ am_gT := by decide +kernel
theorem fl_J0_15 : Cond.fieldLink RJ0 15 "java/lang/String" "coder" "B" ∈ am_gT := by decide +kernel
theorem fl_J0_9 : Cond.fieldLink RJ0 9 "java/lang/String" "value" "[B" ∈ am_gT := by decide +kernel
theorem fl_J0_1053 : Cond.fieldLink RJ0 1053 "jdk/internal/util/Preconditions" "SIOOBE_FORMATTER" "Ljava/util/function/BiFunction;" ∈ am_gT := by decide +kernel
theorem j0_coder {h : am_H} {t : Nat} (ht : Nat.blt t 22 = true) : am_Mi yJ0_coder_7d493 cJ0_coder_7d493 1 (some .byte) 0 0 [am_r (.inl 2) t] h 0 h := by
  refine am_M.ofi (A := [some (am_r (.inl 2) t)]) (by decide +kernel) rfl (ble rfl) (fun Q hQ => ?_)
  refine ar_getsC dJ0_coder_7d493_0 fl_J0_38 ?_
  refine ar_if_eq 13 dJ0_coder_7d493_3 (by decide) (fun c1 => absurd c1 (by decide)) (fun c1 => ?_)
  refine rl_a0 dJ0_coder_7d493_6 ?_
  refine ar_getTc dJ0_coder_7d493_7 fl_J0_15 ht ?_
  refine ar_goto 14 dJ0_coder_7d493_10 (by decide) ?_
  exact ar_iret dJ0_coder_7d493_14 rfl rfl hQ
theorem j0_isLatin1 {h : am_H} {t : Nat} (ht : Nat.blt t 22 = true) : am_Mi yJ0_isLatin1_aae02 cJ0_isLatin1_aae02 1 (some .boolean) 0 0 [am_r (.inl 2) t] h (iI 1) h := by
  refine am_M.ofi (A := [some (am_r (.inl 2) t)]) (by decide +kernel) rfl (ble rfl) (fun Q hQ => ?_)
  refine ar_getsC dJ0_isLatin1_aae02_0 fl_J0_38 ?_
  refine ar_if_eq 17 dJ0_isLatin1_aae02_3 (by decide) (fun c1 => absurd c1 (by decide)) (fun c1 => ?_)
  refine rl_a0 dJ0_isLatin1_aae02_6 ?_
  refine ar_getTc dJ0_isLatin1_aae02_7 fl_J0_15 ht ?_
  refine ar_if_ne 17 dJ0_isLatin1_aae02_10 (by decide) (fun c1 => absurd rfl c1) (fun c1 => ?_)
  refine ar_iconst (iI 1) dJ0_isLatin1_aae02_13 rfl ?_
  refine ar_goto 18 dJ0_isLatin1_aae02_14 (by decide) ?_
  exact ar_iret dJ0_isLatin1_aae02_18 rfl rfl hQ
theorem am_sl_at {t : Nat} (ht : Nat.blt t 22 = true) : am_sl.getD t 0 = (am_tx t).length ∧ am_sb.getD t [] = am_tx t := by
  have ht := Nat.blt_eq.mp ht
  unfold am_sl am_sb
  constructor
  · rw [List.getD_eq_getElem?_getD, List.getElem?_map, List.getElem?_range ht]; rfl
  · rw [List.getD_eq_getElem?_getD, List.getElem?_map, List.getElem?_range ht]; rfl
theorem j0_length {h : am_H} {t : Nat} (ht : Nat.blt t 22 = true) : am_Mi yJ0_length_8abf5 cJ0_length_8abf5 1 (some .int) 1 20 [am_r (.inl 2) t] h (am_tlen t) h := by
  refine am_M.ofi (A := [some (am_r (.inl 2) t)]) (by decide +kernel) rfl (ble rfl) (fun Q hQ => ?_)
  refine rl_a0 dJ0_length_8abf5_0 ?_
  refine ar_getT dJ0_length_8abf5_1 fl_J0_9 ht ?_
  refine ar_tlen dJ0_length_8abf5_4 ht ?_
  refine rl_a0 dJ0_length_8abf5_5 ?_
  refine ar_callT (As := []) dJ0_length_8abf5_6 ml_J0_335 mc_J0_coder_7d493 (j0_coder ht) rfl ht rfl (ble rfl) (ble rfl) (ble rfl) (ble rfl) (ble rfl) (fun r h9 hq => ?_)
  obtain ⟨rfl, rfl⟩ := hq
  refine ar_ishr dJ0_length_8abf5_9 ?_
  rw [(am_sl_at ht).1]
  have e : ∀ x : Int32, x >>> ((0 : Int32) &&& 31) = x := fun x => by
    show x >>> (0 : Int32) = x
    simp
  rw [e]
  exact ar_iret dJ0_length_8abf5_10 rfl rfl hQ
theorem j3_checkIndex {h : am_H} {i n : Int32} {v : am_v} (hv : am_isr v) (h0 : ¬ i < 0) (h1 : i < n) : am_Mi yJ3_checkIndex_8e157 cJ3_checkIndex_8e157 3 (some .int) 0 0 [am_i i, am_i n, v] h i h := by
  have key : ∀ Q : Option am_v → am_H → Prop, Q (some (am_i i)) h → am_V RJ3 cJ3_checkIndex_8e157 3 (some .int) 0 0 0 0 none (am_Tm cJ3_checkIndex_8e157 (some .int) Q) 0 0 0 [some (am_i i), some (am_i n), some v] [] h := by
    intro Q hQ
    refine rl_i0 dJ3_checkIndex_8e157_0 ?_
    refine ar_if_lt 9 dJ3_checkIndex_8e157_1 (by decide) (fun c => absurd c h0) (fun c => ?_)
    refine rl_i0 dJ3_checkIndex_8e157_4 ?_
    refine rl_i1 dJ3_checkIndex_8e157_5 ?_
    refine ar_ic_lt 16 dJ3_checkIndex_8e157_6 (by decide) (fun c => ?_) (fun c => absurd h1 c)
    refine rl_i0 dJ3_checkIndex_8e157_16 ?_
    exact ar_iret dJ3_checkIndex_8e157_17 rfl rfl hQ
  rcases hv with rfl | ⟨a, rfl⟩
  · exact am_M.ofi (by decide +kernel) rfl (ble rfl) key
  · exact am_M.ofi (by decide +kernel) rfl (ble rfl) key
theorem j0_checkIndex {h : am_H} {i n : Int32} (h0 : ¬ i < 0) (h1 : i < n) : am_Mv yJ0_checkIndex_df160 cJ0_checkIndex_df160 2 none 1 22 [am_i i, am_i n] h h := by
  refine am_M.ofv (A := [some (am_i i), some (am_i n)]) (by decide +kernel) rfl (ble rfl) (fun Q hQ => ?_)
  refine rl_i0 dJ0_checkIndex_df160_0 ?_
  refine rl_i1 dJ0_checkIndex_df160_1 ?_
  refine ar_getsF dJ0_checkIndex_df160_2 fl_J0_1053 (fun v hv => ?_)
  refine rc_S3i dJ0_checkIndex_df160_5 ml_J0_1059 mc_J3_checkIndex_8e157 (j3_checkIndex hv h0 h1) rfl rfl rfl ?_
  refine ar_pop dJ0_checkIndex_df160_8 trivial ?_
  exact ar_vret dJ0_checkIndex_df160_9 rfl hQ
theorem am_tx_c : ∀ t : Nat, t < 22 → ∀ j : Nat, j < (am_tx t).length → (((am_tx t).getD j 0 &&& iI 255).toUInt32 % 65536).toInt32 = (am_tx t).getD j 0 ∧ narrow .char (.int ((am_tx t).getD j 0)) = .int ((am_tx t).getD j 0) := by
  decide +kernel
theorem am_tx_8 : ∀ t : Nat, t < 22 → (am_tx t).length < 10 := by decide +kernel
theorem j1_charAt {h : am_H} {t : Nat} {i : Int32} (ht : Nat.blt t 22 = true) (hi : ib i (am_tx t).length) : am_Mi yJ1_charAt_3b067 cJ1_charAt_3b067 2 (some .char) 2 43 [am_r (.inl 3) t, am_i i] h (am_tchr t i) h := by
  have ht' := Nat.blt_eq.mp ht
  have h8 := am_tx_8 t ht'
  have hin := ib_in hi
  have hcl : i.toNatClampNeg = i.toInt.toNat := rfl
  have hj : i.toNatClampNeg < (am_tx t).length := by rw [hcl]; omega
  have hc := am_tx_c t ht' _ hj
  refine am_M.ofi (A := [some (am_r (.inl 3) t), some (am_i i)]) (by decide +kernel) rfl (ble rfl) (fun Q hQ => ?_)
  refine rl_i1 dJ1_charAt_3b067_0 ?_
  refine rl_a0 dJ1_charAt_3b067_1 ?_
  refine ar_tlen dJ1_charAt_3b067_2 ht ?_
  refine rc_S2v dJ1_charAt_3b067_3 ml_J1_9 mc_J0_checkIndex_df160 (j0_checkIndex ?_ ?_) rfl rfl rfl ?_
  · intro c
    have := Int32.lt_iff_toInt_lt.mp c
    have z : (0 : Int32).toInt = 0 := rfl
    omega
  · rw [(am_sl_at ht).1, Int32.lt_iff_toInt_lt, Int32.toInt_ofNat_of_lt (by omega)]
    exact hi.2
  refine rl_a0 dJ1_charAt_3b067_6 ?_
  refine rl_i1 dJ1_charAt_3b067_7 ?_
  refine ar_tbald dJ1_charAt_3b067_8 ht (by rw [(am_sl_at ht).1]; exact hin) ?_
  refine ar_sipush (iI 255) dJ1_charAt_3b067_9 rfl ?_
  refine ar_iand dJ1_charAt_3b067_12 ?_
  refine ar_i2c dJ1_charAt_3b067_13 ?_
  rw [(am_sl_at ht).2, hc.1]
  exact ar_iret dJ1_charAt_3b067_14 rfl hc.2 hQ
theorem j0_charAt {h : am_H} {t : Nat} {i : Int32} (ht : Nat.blt t 22 = true) (hi : ib i (am_tx t).length) : am_Mi yJ0_charAt_5068e cJ0_charAt_5068e 2 (some .char) 3 64 [am_r (.inl 2) t, am_i i] h (am_tchr t i) h := by
  have ht' := Nat.blt_eq.mp ht
  have hcl : i.toNatClampNeg = i.toInt.toNat := rfl
  have hj : i.toNatClampNeg < (am_tx t).length := by rw [hcl]; have := hi; omega
  have hc := am_tx_c t ht' _ hj
  refine am_M.ofi (A := [some (am_r (.inl 2) t), some (am_i i)]) (by decide +kernel) rfl (ble rfl) (fun Q hQ => ?_)
  refine rl_a0 dJ0_charAt_5068e_0 ?_
  refine ar_callT (As := []) dJ0_charAt_5068e_1 ml_J0_492 mc_J0_isLatin1_aae02 (j0_isLatin1 ht) rfl ht rfl (ble rfl) (ble rfl) (ble rfl) (ble rfl) (ble rfl) (fun r h9 hq => ?_)
  obtain ⟨rfl, rfl⟩ := hq
  refine ar_if_eq 16 dJ0_charAt_5068e_4 (by decide) (fun c1 => absurd c1 (by decide)) (fun c1 => ?_)
  refine rl_a0 dJ0_charAt_5068e_7 ?_
  refine ar_getT dJ0_charAt_5068e_8 fl_J0_9 ht ?_
  refine rl_i1 dJ0_charAt_5068e_11 ?_
  refine rc_S2i dJ0_charAt_5068e_12 ml_J0_495 mc_J1_charAt_3b067 (j1_charAt ht hi) rfl rfl rfl ?_
  exact ar_iret dJ0_charAt_5068e_15 rfl hc.2 hQ
section AMT2
variable {own : String} {cc : ByteArray} {nL : Nat} {ret : Option FieldType} {fr lc mc ms : Nat} {tb : am_tb} {Tm : Nat → List am_v → am_H → Prop} {cs ss pc : Nat} {A : List (Option am_v)} {st : List am_v} {h : am_H}
theorem ar_strlen {idx t : Nat} (hd : decode cc pc = .ok (.invokevirtual idx, 3)) (L : Cond.methodLink own idx yJ0_length_8abf5 ∈ am_gT) (ht : Nat.blt t 22 = true) (hfr : Nat.ble 2 fr = true) (hlc : Nat.ble 40 lc = true) (hst : Nat.ble (st.map am_ct).sum 8 = true) (k : am_V own cc nL ret fr lc mc ms tb Tm cs ss (pc + 3) A (am_i (am_tlen t) :: st) h) : am_V own cc nL ret fr lc mc ms tb Tm cs ss pc A (am_r (.inl 2) t :: st) h := by
  intro p l e R s m args below meth c lo ad D cA Z F K hc hcs
  exact (ar_callT (As := []) hd L mc_J0_length_8abf5 (j0_length ht) rfl ht rfl (ble hfr) (ble hlc) hc hcs (am_ct_le hst) (by rintro r hr ⟨rfl, rfl⟩; exact k)) p l e R s m args below meth c lo ad D cA Z F K hc hcs
theorem ar_strchr {idx t : Nat} {i : Int32} (hd : decode cc pc = .ok (.invokevirtual idx, 3)) (L : Cond.methodLink own idx yJ0_charAt_5068e ∈ am_gT) (ht : Nat.blt t 22 = true) (hi : ib i (am_tx t).length) (hfr : Nat.ble 4 fr = true) (hlc : Nat.ble 85 lc = true) (hst : Nat.ble (st.map am_ct).sum 8 = true) (k : am_V own cc nL ret fr lc mc ms tb Tm cs ss (pc + 3) A (am_i (am_tchr t i) :: st) h) : am_V own cc nL ret fr lc mc ms tb Tm cs ss pc A (am_i i :: am_r (.inl 2) t :: st) h := by
  intro p l e R s m args below meth c lo ad D cA Z F K hc hcs
  exact (ar_callT (As := [am_i i]) hd L mc_J0_charAt_5068e (j0_charAt ht hi) rfl ht rfl (ble hfr) (ble hlc) hc hcs (am_ct_le hst) (by rintro r hr ⟨rfl, rfl⟩; exact k)) p l e R s m args below meth c lo ad D cA Z F K hc hcs
end AMT2
theorem kt_X9_43 : (RX9, 43, "arc", 0) ∈ am_sT := List.mem_of_getElem? (i := 0) rfl
theorem kt_X9_57 : (RX9, 57, "name", 1) ∈ am_sT := List.mem_of_getElem? (i := 1) rfl
theorem kt_X9_66 : (RX9, 66, "wide", 2) ∈ am_sT := List.mem_of_getElem? (i := 2) rfl
theorem kt_X9_71 : (RX9, 71, "flourish", 3) ∈ am_sT := List.mem_of_getElem? (i := 3) rfl
theorem kt_X9_81 : (RX9, 81, "seed", 4) ∈ am_sT := List.mem_of_getElem? (i := 4) rfl
theorem kt_X9_91 : (RX9, 91, "sharp", 5) ∈ am_sT := List.mem_of_getElem? (i := 5) rfl
theorem kt_X9_96 : (RX9, 96, "margin", 6) ∈ am_sT := List.mem_of_getElem? (i := 6) rfl
theorem kt_X9_121 : (RX9, 121, "right", 7) ∈ am_sT := List.mem_of_getElem? (i := 7) rfl
theorem kt_X9_126 : (RX9, 126, "hard", 8) ∈ am_sT := List.mem_of_getElem? (i := 8) rfl
theorem kt_X12_39 : (RX12, 39, "", 9) ∈ am_sT := List.mem_of_getElem? (i := 9) rfl
theorem kt_X12_61 : (RX12, 61, "arc ", 10) ∈ am_sT := List.mem_of_getElem? (i := 10) rfl
theorem kt_X12_70 : (RX12, 70, " ", 11) ∈ am_sT := List.mem_of_getElem? (i := 11) rfl
theorem kt_X12_72 : (RX12, 72, " right", 12) ∈ am_sT := List.mem_of_getElem? (i := 12) rfl
theorem kt_X12_74 : (RX12, 74, " hard", 13) ∈ am_sT := List.mem_of_getElem? (i := 13) rfl
theorem kt_X12_76 : (RX12, 76, " ;\n", 14) ∈ am_sT := List.mem_of_getElem? (i := 14) rfl
theorem kt_X12_84 : (RX12, 84, "name ", 15) ∈ am_sT := List.mem_of_getElem? (i := 15) rfl
theorem kt_X12_89 : (RX12, 89, ";", 16) ∈ am_sT := List.mem_of_getElem? (i := 16) rfl
theorem kt_X12_91 : (RX12, 91, "wide ", 17) ∈ am_sT := List.mem_of_getElem? (i := 17) rfl
theorem kt_X12_93 : (RX12, 93, "flourish ", 18) ∈ am_sT := List.mem_of_getElem? (i := 18) rfl
theorem kt_X12_95 : (RX12, 95, "seed ", 19) ∈ am_sT := List.mem_of_getElem? (i := 19) rfl
theorem kt_X12_97 : (RX12, 97, "sharp ", 20) ∈ am_sT := List.mem_of_getElem? (i := 20) rfl
theorem kt_X12_99 : (RX12, 99, "margin ", 21) ∈ am_sT := List.mem_of_getElem? (i := 21) rfl
