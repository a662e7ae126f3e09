/-! the law's own body: its script, its doubles -/
def am_scr (b L : Nat) (xs : Nat → Int32) : am_tb := some (fun s _ lo => va_X b L xs s s.heap ∧ b < s.heap.size ∧ ¬ (lo ≤ b))
theorem am_L.st2d {ad : am_G → Nat → Nat} {nL : Nat} {A : List (Option am_v)} {ls' : Array Slot} {i : Nat} {x : UInt64} {lv : List (Nat × Value)} (hm : ∀ (i : Nat) (v : am_v), A[i]? = some (some v) → (i, am_enc ad v) ∈ lv)
    (h : lv_has ls' nL ((i, Value.double x) :: lv.filter (fun q => !(q.1 == i) && (!(q.1 == i + 1) && !(q.1 + 1 == i && q.2.category == 2))))) (hi : i + 1 < A.length) (hb : am_b4 A i) : am_L ad nL ((A.set i (some (am_dv x))).set (i + 1) none) ls' := by
  refine ⟨h.1, h.2.1, fun j w hj => ?_⟩
  by_cases e9 : j = i + 1
  · subst e9
    rw [List.getElem?_set_self (by simpa using hi)] at hj
    cases hj
  rw [List.getElem?_set_ne (Ne.symm e9)] at hj
  by_cases e : j = i
  · subst e
    rw [List.getElem?_set_self (by omega)] at hj
    cases hj
    exact h.2.2 _ List.mem_cons_self
  · rw [List.getElem?_set_ne (Ne.symm e)] at hj
    refine h.2.2 (j, am_enc ad w) (List.mem_cons_of_mem _ (List.mem_filter.mpr ⟨hm j w hj, ?_⟩))
    have e1 : (j == i) = false := beq_eq_false_iff_ne.mpr e
    have e4 : (j == i + 1) = false := beq_eq_false_iff_ne.mpr e9
    by_cases e2 : j + 1 = i
    · subst e2
      have hc : am_c1 (some w) := by
        have hb : (match A[j]? with | some v => am_c1 v | none => True) := hb
        rw [hj] at hb
        exact hb
      have h1 := am_enc_c1 (ad := ad) hc
      simp [e1, e4, h1]
    · have e3 : (j + 1 == i) = false := beq_eq_false_iff_ne.mpr e2
      simp [e1, e3, e4]
section AMQ
variable {own : String} {cc : ByteArray} {nL : Nat} {ret : Option FieldType} {fr lc mc ms : Nat} {tb : am_tb} {Tm : Nat → List am_v → am_H → Prop} {cs ss pc : Nat} {A : List (Option am_v)} {st : List am_v} {h : am_H}
theorem am_V.up {cs' ss' : Nat} (h1 : cs ≤ cs') (h2 : ss ≤ ss') (h3 : cs' ≤ mc) (h4 : ss' ≤ ms) (k : am_V own cc nL ret fr lc mc ms tb Tm cs' ss' pc A st h) : am_V own cc nL ret fr lc mc ms tb Tm cs ss pc A st h := by
  intro p l e R s m args below meth c lo ad D cA Z F K hc hcs H locs ls hW hS hL
  exact W.widen h1 h2 (k p l e R s m args below meth c lo ad D cA Z F K h3 h4 H locs ls hW hS hL)
theorem ar_aloadS {b : Nat} (hd : decode cc pc = .ok (.aload_n 0, 1)) (k : am_V own cc nL ret fr lc mc ms tb Tm cs ss (pc + 1) (some (.inl (.ref b)) :: A) (.inl (.ref b) :: st) h) : am_V own cc nL ret fr lc mc ms tb Tm cs ss pc (some (.inl (.ref b)) :: A) st h := by
  intro p l e R s m args below meth c lo ad D cA Z F K hc hcs H locs ls hW hS hL
  exact lv_aload_n (i := 0) F.1 F.2.1 hd rfl (hL.2.2 0 _ rfl) (k p l e R s m args below meth c lo ad D cA Z F K hc hcs H locs ls hW hS hL)
theorem ar_slen {b L : Nat} {xs : Nat → Int32} (hd : decode cc pc = .ok (.arraylength, 1)) (k : am_V own cc nL ret fr lc mc ms (am_scr b L xs) Tm cs ss (pc + 1) A (am_i (Int32.ofNat L) :: st) h) : am_V own cc nL ret fr lc mc ms (am_scr b L xs) Tm cs ss pc A (.inl (.ref b) :: st) h := by
  intro p l e R s m args below meth c lo ad D cA Z F K hc hcs H locs ls hW hS hL
  obtain ⟨hX, hb, hA⟩ := F.2.2.2.2.2.2.2.2.2.2.2.2.2 _ rfl
  exact va_slen F.1 F.2.1 hX hb hA hS hd (k p l e R s m args below meth c lo ad D cA Z F K hc hcs H locs ls hW hS hL)
theorem ar_sld {b L : Nat} {xs : Nat → Int32} {i : Int32} (hd : decode cc pc = .ok (.iaload, 1)) (hi : vp_in i L) (k : am_V own cc nL ret fr lc mc ms (am_scr b L xs) Tm cs ss (pc + 1) A (am_i (xs i.toNatClampNeg) :: st) h) : am_V own cc nL ret fr lc mc ms (am_scr b L xs) Tm cs ss pc A (am_i i :: .inl (.ref b) :: st) h := by
  intro p l e R s m args below meth c lo ad D cA Z F K hc hcs H locs ls hW hS hL
  obtain ⟨hX, hb, hA⟩ := F.2.2.2.2.2.2.2.2.2.2.2.2.2 _ rfl
  exact va_sld F.1 F.2.1 hX hb hA hS hi hd (k p l e R s m args below meth c lo ad D cA Z F K hc hcs H locs ls hW hS hL)
theorem rs_d5 {a0 a1 a2 a3 a4 b b' : Option am_v} {x : UInt64} (hd : decode cc pc = .ok (.dstore 5, 2)) (hn : Nat.blt 6 nL = true) (hb : am_c1 a4) (k : am_V own cc nL ret fr lc mc ms tb Tm cs ss (pc + 2) (a0 :: a1 :: a2 :: a3 :: a4 :: some (am_dv x) :: none :: A) st h) : am_V own cc nL ret fr lc mc ms tb Tm cs ss pc (a0 :: a1 :: a2 :: a3 :: a4 :: b :: b' :: A) (am_dv x :: st) h := by
  intro p l e R s m args below meth c lo ad D cA Z F K hc hcs H locs ls hW hS hL
  obtain ⟨lv, h1, h2⟩ := hL.list
  exact lv_dstore F.1 F.2.1 hd h1 (Nat.blt_eq.mp hn) rfl (fun ls' hl => k p l e R s m args below meth c lo ad D cA Z F K hc hcs H locs ls' hW hS (am_L.st2d (i := 5) h2 hl (by simp) hb))
theorem rs_d7 {a0 a1 a2 a3 a4 a5 a6 b b' : Option am_v} {x : UInt64} (hd : decode cc pc = .ok (.dstore 7, 2)) (hn : Nat.blt 8 nL = true) (hb : am_c1 a6) (k : am_V own cc nL ret fr lc mc ms tb Tm cs ss (pc + 2) (a0 :: a1 :: a2 :: a3 :: a4 :: a5 :: a6 :: some (am_dv x) :: none :: A) st h) : am_V own cc nL ret fr lc mc ms tb Tm cs ss pc (a0 :: a1 :: a2 :: a3 :: a4 :: a5 :: a6 :: b :: b' :: A) (am_dv x :: st) h := by
  intro p l e R s m args below meth c lo ad D cA Z F K hc hcs H locs ls hW hS hL
  obtain ⟨lv, h1, h2⟩ := hL.list
  exact lv_dstore F.1 F.2.1 hd h1 (Nat.blt_eq.mp hn) rfl (fun ls' hl => k p l e R s m args below meth c lo ad D cA Z F K hc hcs H locs ls' hW hS (am_L.st2d (i := 7) h2 hl (by simp) hb))
theorem rl_d5 {a0 a1 a2 a3 a4 : Option am_v} {x : UInt64} (hd : decode cc pc = .ok (.dload 5, 2)) (k : am_V own cc nL ret fr lc mc ms tb Tm cs ss (pc + 2) (a0 :: a1 :: a2 :: a3 :: a4 :: some (am_dv x) :: A) (am_dv x :: st) h) : am_V own cc nL ret fr lc mc ms tb Tm cs ss pc (a0 :: a1 :: a2 :: a3 :: a4 :: some (am_dv x) :: A) st h := by
  intro p l e R s m args below meth c lo ad D cA Z F K hc hcs H locs ls hW hS hL
  exact lv_dload F.1 F.2.1 hd (hL.2.2 5 _ rfl) (k p l e R s m args below meth c lo ad D cA Z F K hc hcs H locs ls hW hS hL)
theorem rl_d7 {a0 a1 a2 a3 a4 a5 a6 : Option am_v} {x : UInt64} (hd : decode cc pc = .ok (.dload 7, 2)) (k : am_V own cc nL ret fr lc mc ms tb Tm cs ss (pc + 2) (a0 :: a1 :: a2 :: a3 :: a4 :: a5 :: a6 :: some (am_dv x) :: A) (am_dv x :: st) h) : am_V own cc nL ret fr lc mc ms tb Tm cs ss pc (a0 :: a1 :: a2 :: a3 :: a4 :: a5 :: a6 :: some (am_dv x) :: A) st h := by
  intro p l e R s m args below meth c lo ad D cA Z F K hc hcs H locs ls hW hS hL
  exact lv_dload F.1 F.2.1 hd (hL.2.2 7 _ rfl) (k p l e R s m args below meth c lo ad D cA Z F K hc hcs H locs ls hW hS hL)
end AMQ
