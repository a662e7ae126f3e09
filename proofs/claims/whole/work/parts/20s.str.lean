/-! text constants: their length, their signs -/
def am_tlen (t : Nat) : Int32 := Int32.ofNat (am_tx t).length
def am_tchr (t : Nat) (i : Int32) : Int32 := (am_tx t).getD i.toNatClampNeg 0
section AMT
variable {own : String} {cc : ByteArray} {nL : Nat} {ret : Option FieldType} {fr lc mc ms : Nat} {tb : am_tb} {Tm : Nat → List am_v → am_H → Prop} {cs ss pc : Nat} {A : List (Option am_v)} {st : List am_v} {h : am_H}
theorem ar_ldcT {idx t : Nat} {text : String} (hd : decode cc pc = .ok (.ldc idx, 2)) (hw : (own, idx, text, t) ∈ am_sT) (k : am_V own cc nL ret fr lc mc ms tb Tm cs ss (pc + 2) A (am_r (.inl 2) t :: st) h) : am_V own cc nL ret fr lc mc ms tb Tm cs ss pc A st h := by
  intro p l e R s m args below meth c lo ad D cA Z F K hc hcs H locs ls hW hS hL
  obtain ⟨e1, e2, e3, e4, e5, e6, e7, e8, e9, e10, e11⟩ := F.2.2.2.2.2.1
  exact va_ldcS F.1 F.2.1 F.2.2.2.1 (e8 _ hw) hd (k p l e R s m args below meth c lo ad D cA Z F K hc hcs H locs ls hW hS hL)
theorem ar_strlen {idx t : Nat} (hd : decode cc pc = .ok (.invokevirtual idx, 3)) (L : Cond.methodLink own idx yJ0_length_8abf5 ∈ am_gT) (ht : Nat.blt t 15 = true) (hfr : Nat.ble 2 fr = true) (hlc : Nat.ble 40 lc = true) (hst : Nat.ble (st.map am_ct).sum 8 = true) (k : am_V own cc nL ret fr lc mc ms tb Tm cs ss (pc + 3) A (am_i (am_tlen t) :: st) h) : am_V own cc nL ret fr lc mc ms tb Tm cs ss pc A (am_r (.inl 2) t :: st) h := by
  sorry
theorem ar_strchr {idx t : Nat} {i : Int32} (hd : decode cc pc = .ok (.invokevirtual idx, 3)) (L : Cond.methodLink own idx yJ0_charAt_5068e ∈ am_gT) (ht : Nat.blt t 15 = true) (hi : ib i (am_tx t).length) (hfr : Nat.ble 4 fr = true) (hlc : Nat.ble 85 lc = true) (hst : Nat.ble (st.map am_ct).sum 8 = true) (k : am_V own cc nL ret fr lc mc ms tb Tm cs ss (pc + 3) A (am_i (am_tchr t i) :: st) h) : am_V own cc nL ret fr lc mc ms tb Tm cs ss pc A (am_i i :: am_r (.inl 2) t :: st) h := by
  sorry
end AMT
theorem kt_X9_43 : (RX9, 43, "arc", 0) ∈ am_sT := List.mem_of_getElem? (i := 0) rfl
theorem kt_X9_57 : (RX9, 57, "name", 1) ∈ am_sT := List.mem_of_getElem? (i := 1) rfl
theorem kt_X9_66 : (RX9, 66, "wide", 2) ∈ am_sT := List.mem_of_getElem? (i := 2) rfl
theorem kt_X9_71 : (RX9, 71, "flourish", 3) ∈ am_sT := List.mem_of_getElem? (i := 3) rfl
theorem kt_X9_81 : (RX9, 81, "seed", 4) ∈ am_sT := List.mem_of_getElem? (i := 4) rfl
theorem kt_X9_91 : (RX9, 91, "sharp", 5) ∈ am_sT := List.mem_of_getElem? (i := 5) rfl
theorem kt_X9_96 : (RX9, 96, "margin", 6) ∈ am_sT := List.mem_of_getElem? (i := 6) rfl
theorem kt_X9_121 : (RX9, 121, "right", 7) ∈ am_sT := List.mem_of_getElem? (i := 7) rfl
theorem kt_X9_126 : (RX9, 126, "hard", 8) ∈ am_sT := List.mem_of_getElem? (i := 8) rfl
theorem kt_X8_82 : (RX8, 82, "engrave", 9) ∈ am_sT := List.mem_of_getElem? (i := 9) rfl
theorem kt_X8_88 : (RX8, 88, "all", 10) ∈ am_sT := List.mem_of_getElem? (i := 10) rfl
theorem kt_X8_90 : (RX8, 90, "mend", 11) ∈ am_sT := List.mem_of_getElem? (i := 11) rfl
theorem kt_X8_92 : (RX8, 92, "polish", 12) ∈ am_sT := List.mem_of_getElem? (i := 12) rfl
theorem kt_X8_94 : (RX8, 94, "sharpen", 13) ∈ am_sT := List.mem_of_getElem? (i := 13) rfl
theorem kt_X8_96 : (RX8, 96, "margin", 6) ∈ am_sT := List.mem_of_getElem? (i := 14) rfl
theorem kt_X8_98 : (RX8, 98, "repeat", 14) ∈ am_sT := List.mem_of_getElem? (i := 15) rfl
